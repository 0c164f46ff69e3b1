/-! ===== the judgement sd_J: a frame of a method over a heap of numbered cells ===== -/
/-- the words that a callee's contract may stand on -/
def sd_tb : List Cond := lw_tbl.filter goodWord
theorem sd_mem {w : Cond} {i : Nat} (h : lw_tbl[i]? = some w ∧ goodWord w = true) : w ∈ sd_tb := List.mem_filter.mpr ⟨List.mem_of_getElem? h.1, h.2⟩
abbrev sd_CX : Type := Program × Launch × Env × Room × State × MethodId × Array Value × List Frame × Method × Code
abbrev sd_GX : Type := Nat × (Nat → ClassId) × (Nat → Nat → Nat) × (Nat → ClassId) × (Nat → Nat) × (Nat → Nat)
abbrev sd_MX : Type := MethodName × ByteArray × Nat × Option FieldType × Room
abbrev sd_HX : Type := Nat × (Nat → Nat → Int32) × (Nat → Nat → UInt64) × (Nat → Nat → Option Nat)
/-- the shapes of the cells: class and number of fields, or 100 and on and number of places -/
def sd_shl : List (Nat × Nat) := [(11, 17), (6, 4), (100, 6), (100, 6), (101, 144), (100, 144), (2, 3), (104, 5), (9, 6), (105, 3), (5, 4), (5, 4), (5, 4), (9, 6), (105, 3), (5, 4), (5, 4), (5, 4), (9, 6), (105, 3), (5, 4), (5, 4), (5, 4), (9, 6), (105, 3), (5, 4), (5, 4), (5, 4), (9, 6), (105, 3), (5, 4), (5, 4), (5, 4), (0, 3), (106, 20), (100, 6), (100, 6), (100, 6), (100, 6), (100, 6), (100, 6), (100, 6), (100, 6), (100, 6), (100, 6), (100, 6), (100, 6), (100, 6), (100, 6), (100, 6), (100, 6), (100, 6), (100, 6), (100, 6), (100, 6), (100, 5), (10, 6), (106, 4), (100, 60), (100, 60), (100, 60), (100, 60), (100, 6), (1, 4), (103, 30), (100, 30), (8, 3), (8, 3), (8, 3), (8, 3), (8, 3), (8, 3), (8, 3), (8, 3), (8, 3), (8, 3), (8, 3), (8, 3), (8, 3), (8, 3), (8, 3), (8, 3), (8, 3), (8, 3), (8, 3), (8, 3), (8, 3), (8, 3), (8, 3), (8, 3), (8, 3), (8, 3), (8, 3), (8, 3), (8, 3), (8, 3), (8, 3), (8, 3), (8, 3), (8, 3), (7, 11), (100, 6), (101, 1440), (100, 60), (100, 4), (100, 4), (100, 4), (4, 4), (100, 3), (100, 10), (6, 4), (100, 6), (100, 6), (101, 144), (100, 144), (6, 4), (100, 6), (100, 6), (101, 144), (100, 144), (4, 4), (100, 3), (100, 10), (4, 4), (100, 3), (100, 10), (12, 47), (100, 6), (100, 6), (101, 144), (100, 144), (101, 24), (100, 5), (100, 5), (100, 5), (100, 5), (100, 5), (100, 15), (100, 15), (100, 15), (100, 15), (100, 120), (100, 5), (100, 120), (100, 240), (100, 6), (100, 6), (101, 144), (101, 1440), (102, 1440), (100, 3), (100, 10), (100, 10), (101, 144), (101, 144), (100, 144), (100, 10), (100, 3), (100, 3)]
def sd_NT : Nat := 159
def sd_SH (c : Nat) : Nat × Nat := sd_shl.getD c (999, 0)
/-- the kind of a field: 0 int, 1 boolean, 2 reference -/
def sd_ftl : List (List Nat) := [[2, 0, 0], [2, 2, 2, 0], [2, 0, 0], [2, 0, 0], [2, 2, 0, 0], [0, 0, 0, 0], [2, 2, 2, 2], [2, 2, 2, 2, 2, 2, 2, 2, 2, 0, 0], [0, 0, 0], [2, 0, 0, 0, 0, 0], [2, 2, 2, 2, 1, 1], [2, 2, 2, 2, 2, 2, 2, 2, 2, 2, 2, 2, 2, 2, 2, 0, 0], [2, 2, 2, 2, 0, 2, 0, 0, 2, 2, 2, 2, 2, 2, 2, 2, 2, 2, 0, 2, 0, 2, 0, 2, 2, 1, 0, 0, 0, 2, 2, 2, 2, 1, 0, 2, 2, 0, 0, 1, 2, 2, 2, 2, 2, 2, 2]]
def sd_FT (ci k : Nat) : Nat := (sd_ftl.getD ci []).getD k 9
abbrev sd_cls : List vw_C := [(RX0, TX0, 3), (RX1, TX1, 4), (RX2, TX2, 3), (RX0, TX0, 3), (RX4, TX4, 4), (RX5, TX5, 4), (RX6, TX6, 4), (RX7, TX7, 11), (RX8, TX8, 3), (RX9, TX9, 6), (RX10, TX10, 6), (RX11, TX11, 17), (RX12, TX12, 47)]
def sd_C (ci : Nat) : vw_C := sd_cls.getD ci (RX0, TX0, 0)
def sd_SZ (n : Nat) : Nat := ((sd_shl.take n).map (·.2)).sum
abbrev sd_tys (cA : Nat → ClassId) : List (ClassId × FieldType) := [(cA 100, .int), (cA 101, .double), (cA 102, .boolean), (cA 103, .object RX8), (cA 104, .object RX9), (cA 105, .object RX5), (cA 106, .array .int)]
def sd_fv (b0 : Nat) (h : sd_HX) (ci k j : Nat) : Value := if sd_FT ci j = 2 then va_rf ((h.2.2.2 k j).map (fun a => b0 + a)) else .int (h.2.1 k j)
def sd_arr (b0 : Nat) (h : sd_HX) (t k : Nat) : (Nat → Int32) ⊕ (Nat → Int64) ⊕ (Nat → UInt32) ⊕ (Nat → UInt64) ⊕ (Nat → Option Nat) :=
  if t = 101 then .inr (.inr (.inr (.inl (h.2.2.1 k)))) else if t < 103 then .inl (h.2.1 k) else .inr (.inr (.inr (.inr (fun j => (h.2.2.2 k j).map (fun a => b0 + a)))))
def sd_cel (G : sd_GX) (h : sd_HX) (k : Nat) : va_E :=
  if (sd_SH k).1 < 100 then .inr ((sd_SH k).1, (List.range (sd_SH k).2).map (fun j => sd_fv G.1 h (sd_SH k).1 k j))
  else .inl (G.2.2.2.1 (sd_SH k).1, (sd_SH k).2, sd_arr G.1 h (sd_SH k).1 k)
def sd_W (G : sd_GX) (h : sd_HX) : va_W := (List.range h.1).map (fun k => (G.1 + k, sd_cel G h k))
abbrev sd_dD (G : sd_GX) : va_G := (G.2.1, G.2.2.1)
def sd_HR (G : sd_GX) (h : sd_HX) (H : Heap) : Prop := va_P (sd_dD G) sd_cls (sd_W G h) H ∧ H.size = G.1 + h.1 ∧ h.1 ≤ sd_NT
abbrev sd_A (G : sd_GX) : Nat → Prop := fun q => G.1 ≤ q
abbrev sd_own (M : sd_MX) : String := M.1.cls
abbrev sd_K (G : sd_GX) (U : State) : Prop := va_K (sd_dD G) sd_cls (sd_tys G.2.2.2.1) U
abbrev sd_s (X : sd_CX) : State := X.2.2.2.2.1
/-- the text constants: their cells, their bytes, and what else of the start the text methods read -/
def sd_tx : List String := ["add", "sub", "mul", "rem", "max", "min", "and", "or", "xor", "copy", "pick", "sure", "times"]
def sd_len : List Nat := [3, 3, 3, 3, 3, 3, 3, 2, 3, 4, 4, 4, 5]
def sd_byt : List (List Int32) := [[97, 100, 100], [115, 117, 98], [109, 117, 108], [114, 101, 109], [109, 97, 120], [109, 105, 110], [97, 110, 100], [111, 114], [120, 111, 114], [99, 111, 112, 121], [112, 105, 99, 107], [115, 117, 114, 101], [116, 105, 109, 101, 115]]
/-- words of nest mates and of rows of references: they stay as well -/
def sd_isN : Cond → Bool
  | .methodLinkNest .. | .fieldLinkNest .. | .arrayOver _ => true
  | _ => false
theorem sd_isN_warm {w : Cond} (hw : sd_isN w = true) {s U : State} (hW : s.WarmedH U.vm) (h : va_Nw w s) : va_Nw w U := by
  cases w <;> first
    | exact h.warmM hW
    | exact h.warmF hW
    | (show (Cond.arrayOver _).before #[] (s.setVm U.vm) = true; rw [Cond.arrayOver_setVmC hW.alike]; exact h)
    | (simp [sd_isN] at hw)
def sd_ST (G : sd_GX) (U : State) (H : Heap) : Prop := vk_S 13 sd_len sd_byt G.2.2.2.2.1 G.2.2.2.2.2 (sd_A G) U H ∧ va_Z "java/lang/String" "COMPACT_STRINGS" "Z" (.int 1) (sd_A G) U H ∧ va_Zq "jdk/internal/util/Preconditions" "SIOOBE_FORMATTER" "Ljava/util/function/BiFunction;" (sd_A G) U H ∧ (∀ j, j < 13 → vk_R RX11 (439 + 2 * j) (sd_tx.getD j "") (G.2.2.2.2.1 j) U) ∧ ∀ w ∈ lw_tbl, sd_isN w = true → va_Nw w U
theorem sd_ST.step {G : sd_GX} {s U : State} {H H1 : Heap} (h : sd_ST G s H) (hW : s.WarmedH U.vm) (hq : ∀ a : Nat, a < H.size → ¬ sd_A G a → H1[a]? = H[a]?) : sd_ST G U H1 := by
  obtain ⟨h1, h2, h3, h4, h5⟩ := h
  exact ⟨(h1.moved hW.alike).kept hq, (h2.moved hW.alike).kept hq, (h3.moved hW.alike).kept hq, fun j hj => (h4 j hj).warm hW, fun w hw hn => sd_isN_warm hn hW (h5 w hw hn)⟩
def sd_BD (G : sd_GX) (X : sd_CX) (M : sd_MX) : Prop :=
  X.1.tables.exec = Jvm.exec ∧ X.2.2.2.2.2.2.2.2.2.code = M.2.1 ∧ X.2.2.2.2.2.2.2.2.1.sig.returnType = M.2.2.2.1 ∧ X.2.2.2.2.2.2.2.2.2.maxLocals = M.2.2.1 ∧
  (sd_s X).vm.findClass M.1.cls = some (X.2.2.2.2.2.1).cls ∧ (∀ w ∈ sd_tb, w.before X.2.2.2.2.2.2.1 (sd_s X) = true) ∧ X.2.2.2.2.2.2.2.2.1.locks = false ∧ (M.1.name = "<init>" → X.2.2.2.2.2.2.2.2.1.name = M.1.name) ∧
  X.2.2.2.1 = M.2.2.2.2 ∧ sd_K G (sd_s X) ∧ G.1 ≤ (sd_s X).heap.size ∧ sd_ST G (sd_s X) (sd_s X).heap
abbrev sd_kc (G : sd_GX) (X : sd_CX) (h : sd_HX) : Nat := h.1 + G.1 - (sd_s X).heap.size
abbrev sd_ks (G : sd_GX) (X : sd_CX) (h : sd_HX) : Nat := sd_SZ h.1 - sd_SZ ((sd_s X).heap.size - G.1)
def sd_fit (G : sd_GX) (X : sd_CX) (h : sd_HX) : Prop := sd_kc G X h ≤ X.2.2.2.1.cells ∧ sd_ks G X h ≤ X.2.2.2.1.slots
def sd_J (G : sd_GX) (X : sd_CX) (Q : State → Prop) (M : sd_MX) (pc : Nat) (lo : List (Nat × Value)) (st : List Value) (h : sd_HX) : Prop :=
  sd_BD G X M → ∀ (H : Heap) (locs : List Loc) (ls : Array Slot), sd_HR G h H → va_S (sd_A G) (sd_s X).heap H locs → lv_has ls M.2.2.1 lo → sd_fit G X h →
    W X.1 X.2.1 X.2.2.1 X.2.2.2.1 (sd_s X) X.2.2.2.2.2.1 X.2.2.2.2.2.2.1 X.2.2.2.2.2.2.2.1 X.2.2.2.2.2.2.2.2.1 X.2.2.2.2.2.2.2.2.2 H locs (sd_kc G X h) (sd_ks G X h) Q (F0 X.2.2.2.2.2.1 pc ls st)
abbrev sd_d (M : sd_MX) (pc : Nat) (i : Instr) (len pc' : Nat) : Prop := decode M.2.1 pc = .ok (i, len) ∧ pc + len = pc'
abbrev sd_b (M : sd_MX) (pc : Nat) (i : Instr) (len pc' : Nat) (off : Int) (tgt : Nat) : Prop := decode M.2.1 pc = .ok (i, len) ∧ pc + len = pc' ∧ (pc : Int) + off = (tgt : Int)
section SJ
variable {G : sd_GX} {X : sd_CX} {Q : State → Prop} {M : sd_MX} {pc pc' tgt : Nat} {lo lo' : List (Nat × Value)} {st : List Value} {h : sd_HX}
theorem sd_J.sub (ks : List Nat) (hk : lv_pick lo ks = lo') (k : sd_J G X Q M pc lo' st h) : sd_J G X Q M pc lo st h := fun hB H locs ls hH hS hl hf => k hB H locs ls hH hS (lv_sub hl ks hk) hf

theorem sd_iconst {n : Int} {v : Int32} (d : sd_d M pc (.iconst n) 1 pc') (hv : Int32.ofInt n = v) (k : sd_J G X Q M pc' lo (.int v :: st) h) : sd_J G X Q M pc lo (st) h := fun hB H locs ls hH hS hl hf => by
  obtain ⟨d, rfl⟩ := d
  exact lv_iconst hB.1 hB.2.1 d hv (k hB H locs ls hH hS hl hf)
theorem sd_bipush {n : Int} {v : Int32} (d : sd_d M pc (.bipush n) 2 pc') (hv : (Int8.ofInt n).toInt32 = v) (k : sd_J G X Q M pc' lo (.int v :: st) h) : sd_J G X Q M pc lo (st) h := fun hB H locs ls hH hS hl hf => by
  obtain ⟨d, rfl⟩ := d
  exact lv_bipush hB.1 hB.2.1 d hv (k hB H locs ls hH hS hl hf)
theorem sd_sipush {n : Int} {v : Int32} (d : sd_d M pc (.sipush n) 3 pc') (hv : (Int16.ofInt n).toInt32 = v) (k : sd_J G X Q M pc' lo (.int v :: st) h) : sd_J G X Q M pc lo (st) h := fun hB H locs ls hH hS hl hf => by
  obtain ⟨d, rfl⟩ := d
  exact lv_sipush hB.1 hB.2.1 d hv (k hB H locs ls hH hS hl hf)
theorem sd_lconst {n : Fin 2} {v : Int64} (d : sd_d M pc (.lconst n) 1 pc') (hv : Int64.ofNat (n : Nat) = v) (k : sd_J G X Q M pc' lo (.long v :: st) h) : sd_J G X Q M pc lo (st) h := fun hB H locs ls hH hS hl hf => by
  obtain ⟨d, rfl⟩ := d
  exact lv_lconst hB.1 hB.2.1 d hv (k hB H locs ls hH hS hl hf)
theorem sd_iload_n {k : Fin 4} {i q : Nat} {x : Int32} (d : sd_d M pc (.iload_n k) 1 pc') (hi : (k : Nat) = i) (hq : lo[q]? = some (i, .int x)) (k : sd_J G X Q M pc' lo (.int x :: st) h) : sd_J G X Q M pc lo (st) h := fun hB H locs ls hH hS hl hf => by
  obtain ⟨d, rfl⟩ := d
  exact lv_iload_n hB.1 hB.2.1 d hi (lv_at hl q hq) (k hB H locs ls hH hS hl hf)
theorem sd_iload {i q : Nat} {x : Int32} (d : sd_d M pc (.iload i) 2 pc') (hq : lo[q]? = some (i, .int x)) (k : sd_J G X Q M pc' lo (.int x :: st) h) : sd_J G X Q M pc lo (st) h := fun hB H locs ls hH hS hl hf => by
  obtain ⟨d, rfl⟩ := d
  exact lv_iload hB.1 hB.2.1 d (lv_at hl q hq) (k hB H locs ls hH hS hl hf)
theorem sd_lload_n {k : Fin 4} {i q : Nat} {x : Int64} (d : sd_d M pc (.lload_n k) 1 pc') (hi : (k : Nat) = i) (hq : lo[q]? = some (i, .long x)) (k : sd_J G X Q M pc' lo (.long x :: st) h) : sd_J G X Q M pc lo (st) h := fun hB H locs ls hH hS hl hf => by
  obtain ⟨d, rfl⟩ := d
  exact lv_lload_n hB.1 hB.2.1 d hi (lv_at hl q hq) (k hB H locs ls hH hS hl hf)
theorem sd_lload {i q : Nat} {x : Int64} (d : sd_d M pc (.lload i) 2 pc') (hq : lo[q]? = some (i, .long x)) (k : sd_J G X Q M pc' lo (.long x :: st) h) : sd_J G X Q M pc lo (st) h := fun hB H locs ls hH hS hl hf => by
  obtain ⟨d, rfl⟩ := d
  exact lv_lload hB.1 hB.2.1 d (lv_at hl q hq) (k hB H locs ls hH hS hl hf)
theorem sd_fload_n {k : Fin 4} {i q : Nat} {x : UInt32} (d : sd_d M pc (.fload_n k) 1 pc') (hi : (k : Nat) = i) (hq : lo[q]? = some (i, .float x)) (k : sd_J G X Q M pc' lo (.float x :: st) h) : sd_J G X Q M pc lo (st) h := fun hB H locs ls hH hS hl hf => by
  obtain ⟨d, rfl⟩ := d
  exact lv_fload_n hB.1 hB.2.1 d hi (lv_at hl q hq) (k hB H locs ls hH hS hl hf)
theorem sd_fload {i q : Nat} {x : UInt32} (d : sd_d M pc (.fload i) 2 pc') (hq : lo[q]? = some (i, .float x)) (k : sd_J G X Q M pc' lo (.float x :: st) h) : sd_J G X Q M pc lo (st) h := fun hB H locs ls hH hS hl hf => by
  obtain ⟨d, rfl⟩ := d
  exact lv_fload hB.1 hB.2.1 d (lv_at hl q hq) (k hB H locs ls hH hS hl hf)
theorem sd_dload_n {k : Fin 4} {i q : Nat} {x : UInt64} (d : sd_d M pc (.dload_n k) 1 pc') (hi : (k : Nat) = i) (hq : lo[q]? = some (i, .double x)) (k : sd_J G X Q M pc' lo (.double x :: st) h) : sd_J G X Q M pc lo (st) h := fun hB H locs ls hH hS hl hf => by
  obtain ⟨d, rfl⟩ := d
  exact lv_dload_n hB.1 hB.2.1 d hi (lv_at hl q hq) (k hB H locs ls hH hS hl hf)
theorem sd_dload {i q : Nat} {x : UInt64} (d : sd_d M pc (.dload i) 2 pc') (hq : lo[q]? = some (i, .double x)) (k : sd_J G X Q M pc' lo (.double x :: st) h) : sd_J G X Q M pc lo (st) h := fun hB H locs ls hH hS hl hf => by
  obtain ⟨d, rfl⟩ := d
  exact lv_dload hB.1 hB.2.1 d (lv_at hl q hq) (k hB H locs ls hH hS hl hf)
theorem sd_aload_n {k : Fin 4} {i q : Nat} {x : Nat} (d : sd_d M pc (.aload_n k) 1 pc') (hi : (k : Nat) = i) (hq : lo[q]? = some (i, .ref x)) (k : sd_J G X Q M pc' lo (.ref x :: st) h) : sd_J G X Q M pc lo (st) h := fun hB H locs ls hH hS hl hf => by
  obtain ⟨d, rfl⟩ := d
  exact lv_aload_n hB.1 hB.2.1 d hi (lv_at hl q hq) (k hB H locs ls hH hS hl hf)
theorem sd_aload {i q : Nat} {x : Nat} (d : sd_d M pc (.aload i) 2 pc') (hq : lo[q]? = some (i, .ref x)) (k : sd_J G X Q M pc' lo (.ref x :: st) h) : sd_J G X Q M pc lo (st) h := fun hB H locs ls hH hS hl hf => by
  obtain ⟨d, rfl⟩ := d
  exact lv_aload hB.1 hB.2.1 d (lv_at hl q hq) (k hB H locs ls hH hS hl hf)
theorem sd_istore_n {k : Fin 4} {i : Nat} {x : Int32} (d : sd_d M pc (.istore_n k) 1 pc') (hi : (k : Nat) = i) (hn : i < M.2.2.1) (hl2 : (i, Value.int x) :: lo.filter (fun q => !(q.1 == i) && !(q.1 + 1 == i && q.2.category == 2)) = lo') (k : sd_J G X Q M pc' lo' st h) : sd_J G X Q M pc lo (.int x :: st) h := fun hB H locs ls hH hS hl hf => by
  obtain ⟨d, rfl⟩ := d
  exact lv_istore_n hB.1 hB.2.1 d hi hl hn hl2 (fun ls' hl' => k hB H locs ls' hH hS hl' hf)
theorem sd_istore {i : Nat} {x : Int32} (d : sd_d M pc (.istore i) 2 pc') (hn : i < M.2.2.1) (hl2 : (i, Value.int x) :: lo.filter (fun q => !(q.1 == i) && !(q.1 + 1 == i && q.2.category == 2)) = lo') (k : sd_J G X Q M pc' lo' st h) : sd_J G X Q M pc lo (.int x :: st) h := fun hB H locs ls hH hS hl hf => by
  obtain ⟨d, rfl⟩ := d
  exact lv_istore hB.1 hB.2.1 d hl hn hl2 (fun ls' hl' => k hB H locs ls' hH hS hl' hf)
theorem sd_lstore_n {k : Fin 4} {i : Nat} {x : Int64} (d : sd_d M pc (.lstore_n k) 1 pc') (hi : (k : Nat) = i) (hn : i + 1 < M.2.2.1) (hl2 : (i, Value.long x) :: lo.filter (fun q => !(q.1 == i) && (!(q.1 == i + 1) && !(q.1 + 1 == i && q.2.category == 2))) = lo') (k : sd_J G X Q M pc' lo' st h) : sd_J G X Q M pc lo (.long x :: st) h := fun hB H locs ls hH hS hl hf => by
  obtain ⟨d, rfl⟩ := d
  exact lv_lstore_n hB.1 hB.2.1 d hi hl hn hl2 (fun ls' hl' => k hB H locs ls' hH hS hl' hf)
theorem sd_lstore {i : Nat} {x : Int64} (d : sd_d M pc (.lstore i) 2 pc') (hn : i + 1 < M.2.2.1) (hl2 : (i, Value.long x) :: lo.filter (fun q => !(q.1 == i) && (!(q.1 == i + 1) && !(q.1 + 1 == i && q.2.category == 2))) = lo') (k : sd_J G X Q M pc' lo' st h) : sd_J G X Q M pc lo (.long x :: st) h := fun hB H locs ls hH hS hl hf => by
  obtain ⟨d, rfl⟩ := d
  exact lv_lstore hB.1 hB.2.1 d hl hn hl2 (fun ls' hl' => k hB H locs ls' hH hS hl' hf)
theorem sd_fstore_n {k : Fin 4} {i : Nat} {x : UInt32} (d : sd_d M pc (.fstore_n k) 1 pc') (hi : (k : Nat) = i) (hn : i < M.2.2.1) (hl2 : (i, Value.float x) :: lo.filter (fun q => !(q.1 == i) && !(q.1 + 1 == i && q.2.category == 2)) = lo') (k : sd_J G X Q M pc' lo' st h) : sd_J G X Q M pc lo (.float x :: st) h := fun hB H locs ls hH hS hl hf => by
  obtain ⟨d, rfl⟩ := d
  exact lv_fstore_n hB.1 hB.2.1 d hi hl hn hl2 (fun ls' hl' => k hB H locs ls' hH hS hl' hf)
theorem sd_fstore {i : Nat} {x : UInt32} (d : sd_d M pc (.fstore i) 2 pc') (hn : i < M.2.2.1) (hl2 : (i, Value.float x) :: lo.filter (fun q => !(q.1 == i) && !(q.1 + 1 == i && q.2.category == 2)) = lo') (k : sd_J G X Q M pc' lo' st h) : sd_J G X Q M pc lo (.float x :: st) h := fun hB H locs ls hH hS hl hf => by
  obtain ⟨d, rfl⟩ := d
  exact lv_fstore hB.1 hB.2.1 d hl hn hl2 (fun ls' hl' => k hB H locs ls' hH hS hl' hf)
theorem sd_dstore_n {k : Fin 4} {i : Nat} {x : UInt64} (d : sd_d M pc (.dstore_n k) 1 pc') (hi : (k : Nat) = i) (hn : i + 1 < M.2.2.1) (hl2 : (i, Value.double x) :: lo.filter (fun q => !(q.1 == i) && (!(q.1 == i + 1) && !(q.1 + 1 == i && q.2.category == 2))) = lo') (k : sd_J G X Q M pc' lo' st h) : sd_J G X Q M pc lo (.double x :: st) h := fun hB H locs ls hH hS hl hf => by
  obtain ⟨d, rfl⟩ := d
  exact lv_dstore_n hB.1 hB.2.1 d hi hl hn hl2 (fun ls' hl' => k hB H locs ls' hH hS hl' hf)
theorem sd_dstore {i : Nat} {x : UInt64} (d : sd_d M pc (.dstore i) 2 pc') (hn : i + 1 < M.2.2.1) (hl2 : (i, Value.double x) :: lo.filter (fun q => !(q.1 == i) && (!(q.1 == i + 1) && !(q.1 + 1 == i && q.2.category == 2))) = lo') (k : sd_J G X Q M pc' lo' st h) : sd_J G X Q M pc lo (.double x :: st) h := fun hB H locs ls hH hS hl hf => by
  obtain ⟨d, rfl⟩ := d
  exact lv_dstore hB.1 hB.2.1 d hl hn hl2 (fun ls' hl' => k hB H locs ls' hH hS hl' hf)
theorem sd_astore_n {k : Fin 4} {i : Nat} {x : Nat} (d : sd_d M pc (.astore_n k) 1 pc') (hi : (k : Nat) = i) (hn : i < M.2.2.1) (hl2 : (i, Value.ref x) :: lo.filter (fun q => !(q.1 == i) && !(q.1 + 1 == i && q.2.category == 2)) = lo') (k : sd_J G X Q M pc' lo' st h) : sd_J G X Q M pc lo (.ref x :: st) h := fun hB H locs ls hH hS hl hf => by
  obtain ⟨d, rfl⟩ := d
  exact lv_astore_n hB.1 hB.2.1 d hi hl hn hl2 (fun ls' hl' => k hB H locs ls' hH hS hl' hf)
theorem sd_astore {i : Nat} {x : Nat} (d : sd_d M pc (.astore i) 2 pc') (hn : i < M.2.2.1) (hl2 : (i, Value.ref x) :: lo.filter (fun q => !(q.1 == i) && !(q.1 + 1 == i && q.2.category == 2)) = lo') (k : sd_J G X Q M pc' lo' st h) : sd_J G X Q M pc lo (.ref x :: st) h := fun hB H locs ls hH hS hl hf => by
  obtain ⟨d, rfl⟩ := d
  exact lv_astore hB.1 hB.2.1 d hl hn hl2 (fun ls' hl' => k hB H locs ls' hH hS hl' hf)
theorem sd_iinc {i q : Nat} {n : Int} {x v : Int32} (d : sd_d M pc (.iinc i n) 3 pc') (hq : lo[q]? = some (i, .int x)) (hv : x + Int32.ofInt n = v) (hn : i < M.2.2.1) (hl2 : (i, Value.int v) :: lo.filter (fun q => !(q.1 == i) && !(q.1 + 1 == i && q.2.category == 2)) = lo') (k : sd_J G X Q M pc' lo' st h) : sd_J G X Q M pc lo st h := fun hB H locs ls hH hS hl hf => by
  obtain ⟨d, rfl⟩ := d
  exact lv_iinc hB.1 hB.2.1 d hl (k := q) hq hv hn hl2 (fun ls' hl' => k hB H locs ls' hH hS hl' hf)
theorem sd_iadd {x y : Int32} (d : sd_d M pc (.iadd) 1 pc') (k : sd_J G X Q M pc' lo (.int (x + y) :: st) h) : sd_J G X Q M pc lo (.int y :: .int x :: st) h := fun hB H locs ls hH hS hl hf => by
  obtain ⟨d, rfl⟩ := d
  exact lv_iadd hB.1 hB.2.1 d (k hB H locs ls hH hS hl hf)
theorem sd_isub {x y : Int32} (d : sd_d M pc (.isub) 1 pc') (k : sd_J G X Q M pc' lo (.int (x - y) :: st) h) : sd_J G X Q M pc lo (.int y :: .int x :: st) h := fun hB H locs ls hH hS hl hf => by
  obtain ⟨d, rfl⟩ := d
  exact lv_isub hB.1 hB.2.1 d (k hB H locs ls hH hS hl hf)
theorem sd_imul {x y : Int32} (d : sd_d M pc (.imul) 1 pc') (k : sd_J G X Q M pc' lo (.int (x * y) :: st) h) : sd_J G X Q M pc lo (.int y :: .int x :: st) h := fun hB H locs ls hH hS hl hf => by
  obtain ⟨d, rfl⟩ := d
  exact lv_imul hB.1 hB.2.1 d (k hB H locs ls hH hS hl hf)
theorem sd_iand {x y : Int32} (d : sd_d M pc (.iand) 1 pc') (k : sd_J G X Q M pc' lo (.int (x &&& y) :: st) h) : sd_J G X Q M pc lo (.int y :: .int x :: st) h := fun hB H locs ls hH hS hl hf => by
  obtain ⟨d, rfl⟩ := d
  exact lv_iand hB.1 hB.2.1 d (k hB H locs ls hH hS hl hf)
theorem sd_ior {x y : Int32} (d : sd_d M pc (.ior) 1 pc') (k : sd_J G X Q M pc' lo (.int (x ||| y) :: st) h) : sd_J G X Q M pc lo (.int y :: .int x :: st) h := fun hB H locs ls hH hS hl hf => by
  obtain ⟨d, rfl⟩ := d
  exact lv_ior hB.1 hB.2.1 d (k hB H locs ls hH hS hl hf)
theorem sd_ixor {x y : Int32} (d : sd_d M pc (.ixor) 1 pc') (k : sd_J G X Q M pc' lo (.int (x ^^^ y) :: st) h) : sd_J G X Q M pc lo (.int y :: .int x :: st) h := fun hB H locs ls hH hS hl hf => by
  obtain ⟨d, rfl⟩ := d
  exact lv_ixor hB.1 hB.2.1 d (k hB H locs ls hH hS hl hf)
theorem sd_ishl {x y : Int32} (d : sd_d M pc (.ishl) 1 pc') (k : sd_J G X Q M pc' lo (.int (x <<< (y &&& 31)) :: st) h) : sd_J G X Q M pc lo (.int y :: .int x :: st) h := fun hB H locs ls hH hS hl hf => by
  obtain ⟨d, rfl⟩ := d
  exact lv_ishl hB.1 hB.2.1 d (k hB H locs ls hH hS hl hf)
theorem sd_ishr {x y : Int32} (d : sd_d M pc (.ishr) 1 pc') (k : sd_J G X Q M pc' lo (.int (x >>> (y &&& 31)) :: st) h) : sd_J G X Q M pc lo (.int y :: .int x :: st) h := fun hB H locs ls hH hS hl hf => by
  obtain ⟨d, rfl⟩ := d
  exact lv_ishr hB.1 hB.2.1 d (k hB H locs ls hH hS hl hf)
theorem sd_iushr {x y : Int32} {v : Int32} (d : sd_d M pc (.iushr) 1 pc') (hv : (x.toUInt32 >>> (y.toUInt32 &&& Int32.toUInt32 31)).toInt32 = v) (k : sd_J G X Q M pc' lo (.int v :: st) h) : sd_J G X Q M pc lo (.int y :: .int x :: st) h := fun hB H locs ls hH hS hl hf => by
  obtain ⟨d, rfl⟩ := d
  exact lv_iushr hB.1 hB.2.1 d hv (k hB H locs ls hH hS hl hf)
theorem sd_idiv {x y : Int32} (d : sd_d M pc (.idiv) 1 pc') (hne : ¬ y = 0) (k : sd_J G X Q M pc' lo (.int (x / y) :: st) h) : sd_J G X Q M pc lo (.int y :: .int x :: st) h := fun hB H locs ls hH hS hl hf => by
  obtain ⟨d, rfl⟩ := d
  exact lv_idiv hB.1 hB.2.1 d hne (k hB H locs ls hH hS hl hf)
theorem sd_irem {x y : Int32} (d : sd_d M pc (.irem) 1 pc') (hne : ¬ y = 0) (k : sd_J G X Q M pc' lo (.int (x - x / y * y) :: st) h) : sd_J G X Q M pc lo (.int y :: .int x :: st) h := fun hB H locs ls hH hS hl hf => by
  obtain ⟨d, rfl⟩ := d
  exact lv_irem hB.1 hB.2.1 d hne (k hB H locs ls hH hS hl hf)
theorem sd_ineg {x : Int32} (d : sd_d M pc (.ineg) 1 pc') (k : sd_J G X Q M pc' lo (.int (-x) :: st) h) : sd_J G X Q M pc lo (.int x :: st) h := fun hB H locs ls hH hS hl hf => by
  obtain ⟨d, rfl⟩ := d
  exact lv_ineg hB.1 hB.2.1 d (k hB H locs ls hH hS hl hf)
theorem sd_ladd {x y : Int64} (d : sd_d M pc (.ladd) 1 pc') (k : sd_J G X Q M pc' lo (.long (x + y) :: st) h) : sd_J G X Q M pc lo (.long y :: .long x :: st) h := fun hB H locs ls hH hS hl hf => by
  obtain ⟨d, rfl⟩ := d
  exact lv_ladd hB.1 hB.2.1 d (k hB H locs ls hH hS hl hf)
theorem sd_lsub {x y : Int64} (d : sd_d M pc (.lsub) 1 pc') (k : sd_J G X Q M pc' lo (.long (x - y) :: st) h) : sd_J G X Q M pc lo (.long y :: .long x :: st) h := fun hB H locs ls hH hS hl hf => by
  obtain ⟨d, rfl⟩ := d
  exact lv_lsub hB.1 hB.2.1 d (k hB H locs ls hH hS hl hf)
theorem sd_lmul {x y : Int64} (d : sd_d M pc (.lmul) 1 pc') (k : sd_J G X Q M pc' lo (.long (x * y) :: st) h) : sd_J G X Q M pc lo (.long y :: .long x :: st) h := fun hB H locs ls hH hS hl hf => by
  obtain ⟨d, rfl⟩ := d
  exact lv_lmul hB.1 hB.2.1 d (k hB H locs ls hH hS hl hf)
theorem sd_lor {x y : Int64} (d : sd_d M pc (.lor) 1 pc') (k : sd_J G X Q M pc' lo (.long (x ||| y) :: st) h) : sd_J G X Q M pc lo (.long y :: .long x :: st) h := fun hB H locs ls hH hS hl hf => by
  obtain ⟨d, rfl⟩ := d
  exact lv_lor hB.1 hB.2.1 d (k hB H locs ls hH hS hl hf)
theorem sd_lshl {x v : Int64} {y : Int32} (d : sd_d M pc (.lshl) 1 pc') (hv : x <<< (y.toInt64 &&& 63) = v) (k : sd_J G X Q M pc' lo (.long v :: st) h) : sd_J G X Q M pc lo (.int y :: .long x :: st) h := fun hB H locs ls hH hS hl hf => by
  obtain ⟨d, rfl⟩ := d
  exact lv_lshl hB.1 hB.2.1 d hv (k hB H locs ls hH hS hl hf)
theorem sd_i2l {x : Int32} {v : Int64} (d : sd_d M pc (.i2l) 1 pc') (hv : x.toInt64 = v) (k : sd_J G X Q M pc' lo (.long v :: st) h) : sd_J G X Q M pc lo (.int x :: st) h := fun hB H locs ls hH hS hl hf => by
  obtain ⟨d, rfl⟩ := d
  exact lv_i2l hB.1 hB.2.1 d hv (k hB H locs ls hH hS hl hf)
theorem sd_l2i {x : Int64} {v : Int32} (d : sd_d M pc (.l2i) 1 pc') (hv : x.toInt32 = v) (k : sd_J G X Q M pc' lo (.int v :: st) h) : sd_J G X Q M pc lo (.long x :: st) h := fun hB H locs ls hH hS hl hf => by
  obtain ⟨d, rfl⟩ := d
  exact lv_l2i hB.1 hB.2.1 d hv (k hB H locs ls hH hS hl hf)
theorem sd_i2s {x v : Int32} (d : sd_d M pc (.i2s) 1 pc') (hv : x.toInt16.toInt32 = v) (k : sd_J G X Q M pc' lo (.int v :: st) h) : sd_J G X Q M pc lo (.int x :: st) h := fun hB H locs ls hH hS hl hf => by
  obtain ⟨d, rfl⟩ := d
  exact lv_i2s hB.1 hB.2.1 d hv (k hB H locs ls hH hS hl hf)
theorem sd_lcmp {x y : Int64} (d : sd_d M pc (.lcmp) 1 pc') (k : sd_J G X Q M pc' lo (.int (lg_cmp x y) :: st) h) : sd_J G X Q M pc lo (.long y :: .long x :: st) h := fun hB H locs ls hH hS hl hf => by
  obtain ⟨d, rfl⟩ := d
  exact W.lcmp hB.1 hB.2.1 d (k hB H locs ls hH hS hl hf)
theorem sd_fadd {x y : UInt32} (d : sd_d M pc (.fadd) 1 pc') (hne : vf_n32 (FP.fadd x y)) (k : sd_J G X Q M pc' lo (.float (FP.fadd x y) :: st) h) : sd_J G X Q M pc lo (.float y :: .float x :: st) h := fun hB H locs ls hH hS hl hf => by
  obtain ⟨d, rfl⟩ := d
  exact lv_fadd hB.1 hB.2.1 d hne (k hB H locs ls hH hS hl hf)
theorem sd_fsub {x y : UInt32} (d : sd_d M pc (.fsub) 1 pc') (hne : vf_n32 (FP.fsub x y)) (k : sd_J G X Q M pc' lo (.float (FP.fsub x y) :: st) h) : sd_J G X Q M pc lo (.float y :: .float x :: st) h := fun hB H locs ls hH hS hl hf => by
  obtain ⟨d, rfl⟩ := d
  exact lv_fsub hB.1 hB.2.1 d hne (k hB H locs ls hH hS hl hf)
theorem sd_fmul {x y : UInt32} (d : sd_d M pc (.fmul) 1 pc') (hne : vf_n32 (FP.fmul x y)) (k : sd_J G X Q M pc' lo (.float (FP.fmul x y) :: st) h) : sd_J G X Q M pc lo (.float y :: .float x :: st) h := fun hB H locs ls hH hS hl hf => by
  obtain ⟨d, rfl⟩ := d
  exact lv_fmul hB.1 hB.2.1 d hne (k hB H locs ls hH hS hl hf)
theorem sd_fdiv {x y : UInt32} (d : sd_d M pc (.fdiv) 1 pc') (hne : vf_n32 (FP.fdiv x y)) (k : sd_J G X Q M pc' lo (.float (FP.fdiv x y) :: st) h) : sd_J G X Q M pc lo (.float y :: .float x :: st) h := fun hB H locs ls hH hS hl hf => by
  obtain ⟨d, rfl⟩ := d
  exact lv_fdiv hB.1 hB.2.1 d hne (k hB H locs ls hH hS hl hf)
theorem sd_frem {x y : UInt32} (d : sd_d M pc (.frem) 1 pc') (hne : vf_n32 (FP.frem x y)) (k : sd_J G X Q M pc' lo (.float (FP.frem x y) :: st) h) : sd_J G X Q M pc lo (.float y :: .float x :: st) h := fun hB H locs ls hH hS hl hf => by
  obtain ⟨d, rfl⟩ := d
  exact lv_frem hB.1 hB.2.1 d hne (k hB H locs ls hH hS hl hf)
theorem sd_dadd {x y : UInt64} (d : sd_d M pc (.dadd) 1 pc') (hne : vf_n64 (FP.dadd x y)) (k : sd_J G X Q M pc' lo (.double (FP.dadd x y) :: st) h) : sd_J G X Q M pc lo (.double y :: .double x :: st) h := fun hB H locs ls hH hS hl hf => by
  obtain ⟨d, rfl⟩ := d
  exact lv_dadd hB.1 hB.2.1 d hne (k hB H locs ls hH hS hl hf)
theorem sd_dsub {x y : UInt64} (d : sd_d M pc (.dsub) 1 pc') (hne : vf_n64 (FP.dsub x y)) (k : sd_J G X Q M pc' lo (.double (FP.dsub x y) :: st) h) : sd_J G X Q M pc lo (.double y :: .double x :: st) h := fun hB H locs ls hH hS hl hf => by
  obtain ⟨d, rfl⟩ := d
  exact lv_dsub hB.1 hB.2.1 d hne (k hB H locs ls hH hS hl hf)
theorem sd_dmul {x y : UInt64} (d : sd_d M pc (.dmul) 1 pc') (hne : vf_n64 (FP.dmul x y)) (k : sd_J G X Q M pc' lo (.double (FP.dmul x y) :: st) h) : sd_J G X Q M pc lo (.double y :: .double x :: st) h := fun hB H locs ls hH hS hl hf => by
  obtain ⟨d, rfl⟩ := d
  exact lv_dmul hB.1 hB.2.1 d hne (k hB H locs ls hH hS hl hf)
theorem sd_ddiv {x y : UInt64} (d : sd_d M pc (.ddiv) 1 pc') (hne : vf_n64 (FP.ddiv x y)) (k : sd_J G X Q M pc' lo (.double (FP.ddiv x y) :: st) h) : sd_J G X Q M pc lo (.double y :: .double x :: st) h := fun hB H locs ls hH hS hl hf => by
  obtain ⟨d, rfl⟩ := d
  exact lv_ddiv hB.1 hB.2.1 d hne (k hB H locs ls hH hS hl hf)
theorem sd_drem {x y : UInt64} (d : sd_d M pc (.drem) 1 pc') (hne : vf_n64 (FP.drem x y)) (k : sd_J G X Q M pc' lo (.double (FP.drem x y) :: st) h) : sd_J G X Q M pc lo (.double y :: .double x :: st) h := fun hB H locs ls hH hS hl hf => by
  obtain ⟨d, rfl⟩ := d
  exact lv_drem hB.1 hB.2.1 d hne (k hB H locs ls hH hS hl hf)
theorem sd_dneg {x : UInt64} (d : sd_d M pc (.dneg) 1 pc') (k : sd_J G X Q M pc' lo (.double (FP.dneg x) :: st) h) : sd_J G X Q M pc lo (.double x :: st) h := fun hB H locs ls hH hS hl hf => by
  obtain ⟨d, rfl⟩ := d
  exact lv_dneg hB.1 hB.2.1 d (k hB H locs ls hH hS hl hf)
theorem sd_fcmp {x y : UInt32} {op : CmpOp} (d : sd_d M pc (.fcmp op) 1 pc') (k : sd_J G X Q M pc' lo (.int (Op.cmpValue (FP.fcmp x y) op) :: st) h) : sd_J G X Q M pc lo (.float y :: .float x :: st) h := fun hB H locs ls hH hS hl hf => by
  obtain ⟨d, rfl⟩ := d
  exact lv_fcmp hB.1 hB.2.1 d (k hB H locs ls hH hS hl hf)
theorem sd_dcmp {x y : UInt64} {op : CmpOp} (d : sd_d M pc (.dcmp op) 1 pc') (k : sd_J G X Q M pc' lo (.int (Op.cmpValue (FP.dcmp x y) op) :: st) h) : sd_J G X Q M pc lo (.double y :: .double x :: st) h := fun hB H locs ls hH hS hl hf => by
  obtain ⟨d, rfl⟩ := d
  exact lv_dcmp hB.1 hB.2.1 d (k hB H locs ls hH hS hl hf)
theorem sd_i2f {x : Int32} (d : sd_d M pc (.i2f) 1 pc') (k : sd_J G X Q M pc' lo (.float (FP.i2f x) :: st) h) : sd_J G X Q M pc lo (.int x :: st) h := fun hB H locs ls hH hS hl hf => by
  obtain ⟨d, rfl⟩ := d
  exact lv_i2f hB.1 hB.2.1 d (k hB H locs ls hH hS hl hf)
theorem sd_i2d {x : Int32} (d : sd_d M pc (.i2d) 1 pc') (k : sd_J G X Q M pc' lo (.double (FP.i2d x) :: st) h) : sd_J G X Q M pc lo (.int x :: st) h := fun hB H locs ls hH hS hl hf => by
  obtain ⟨d, rfl⟩ := d
  exact lv_i2d hB.1 hB.2.1 d (k hB H locs ls hH hS hl hf)
theorem sd_l2d {x : Int64} (d : sd_d M pc (.l2d) 1 pc') (k : sd_J G X Q M pc' lo (.double (FP.l2d x) :: st) h) : sd_J G X Q M pc lo (.long x :: st) h := fun hB H locs ls hH hS hl hf => by
  obtain ⟨d, rfl⟩ := d
  exact lv_l2d hB.1 hB.2.1 d (k hB H locs ls hH hS hl hf)
theorem sd_d2i {x : UInt64} (d : sd_d M pc (.d2i) 1 pc') (k : sd_J G X Q M pc' lo (.int (FP.d2i x) :: st) h) : sd_J G X Q M pc lo (.double x :: st) h := fun hB H locs ls hH hS hl hf => by
  obtain ⟨d, rfl⟩ := d
  exact lv_d2i hB.1 hB.2.1 d (k hB H locs ls hH hS hl hf)
theorem sd_d2l {x : UInt64} (d : sd_d M pc (.d2l) 1 pc') (k : sd_J G X Q M pc' lo (.long (FP.d2l x) :: st) h) : sd_J G X Q M pc lo (.double x :: st) h := fun hB H locs ls hH hS hl hf => by
  obtain ⟨d, rfl⟩ := d
  exact lv_d2l hB.1 hB.2.1 d (k hB H locs ls hH hS hl hf)
theorem sd_f2d {x : UInt32} (d : sd_d M pc (.f2d) 1 pc') (hne : vf_n64 (FP.f2d x)) (k : sd_J G X Q M pc' lo (.double (FP.f2d x) :: st) h) : sd_J G X Q M pc lo (.float x :: st) h := fun hB H locs ls hH hS hl hf => by
  obtain ⟨d, rfl⟩ := d
  exact lv_f2d hB.1 hB.2.1 d hne (k hB H locs ls hH hS hl hf)
theorem sd_d2f {x : UInt64} (d : sd_d M pc (.d2f) 1 pc') (hne : vf_n32 (FP.d2f x)) (k : sd_J G X Q M pc' lo (.float (FP.d2f x) :: st) h) : sd_J G X Q M pc lo (.double x :: st) h := fun hB H locs ls hH hS hl hf => by
  obtain ⟨d, rfl⟩ := d
  exact lv_d2f hB.1 hB.2.1 d hne (k hB H locs ls hH hS hl hf)
theorem sd_fconst0 (d : sd_d M pc (.fconst 0) 1 pc') (k : sd_J G X Q M pc' lo (.float FP.fconst0 :: st) h) : sd_J G X Q M pc lo (st) h := fun hB H locs ls hH hS hl hf => by
  obtain ⟨d, rfl⟩ := d
  exact lv_fconst0 hB.1 hB.2.1 d (k hB H locs ls hH hS hl hf)
theorem sd_dconst0 (d : sd_d M pc (.dconst 0) 1 pc') (k : sd_J G X Q M pc' lo (.double FP.dconst0 :: st) h) : sd_J G X Q M pc lo (st) h := fun hB H locs ls hH hS hl hf => by
  obtain ⟨d, rfl⟩ := d
  exact lv_dconst0 hB.1 hB.2.1 d (k hB H locs ls hH hS hl hf)
theorem sd_dconst1 (d : sd_d M pc (.dconst 1) 1 pc') (k : sd_J G X Q M pc' lo (.double FP.dconst1 :: st) h) : sd_J G X Q M pc lo (st) h := fun hB H locs ls hH hS hl hf => by
  obtain ⟨d, rfl⟩ := d
  exact lv_dconst1 hB.1 hB.2.1 d (k hB H locs ls hH hS hl hf)
theorem sd_dup {v : Value} (d : sd_d M pc (.dup) 1 pc') (hv : v.category = 1) (k : sd_J G X Q M pc' lo (v :: v :: st) h) : sd_J G X Q M pc lo (v :: st) h := fun hB H locs ls hH hS hl hf => by
  obtain ⟨d, rfl⟩ := d
  exact lv_dup hB.1 hB.2.1 d hv (k hB H locs ls hH hS hl hf)
theorem sd_pop {v : Value} (d : sd_d M pc (.pop) 1 pc') (hv : v.category = 1) (k : sd_J G X Q M pc' lo (st) h) : sd_J G X Q M pc lo (v :: st) h := fun hB H locs ls hH hS hl hf => by
  obtain ⟨d, rfl⟩ := d
  exact lv_pop hB.1 hB.2.1 d hv (k hB H locs ls hH hS hl hf)
theorem sd_dup_x1 {v w : Value} (d : sd_d M pc (.dup_x1) 1 pc') (hv : v.category = 1) (hw : w.category = 1) (k : sd_J G X Q M pc' lo (v :: w :: v :: st) h) : sd_J G X Q M pc lo (v :: w :: st) h := fun hB H locs ls hH hS hl hf => by
  obtain ⟨d, rfl⟩ := d
  exact lv_dup_x1 hB.1 hB.2.1 d hv hw (k hB H locs ls hH hS hl hf)
theorem sd_dup2 {v w : Value} (d : sd_d M pc (.dup2) 1 pc') (hv : v.category = 1) (hw : w.category = 1) (k : sd_J G X Q M pc' lo (v :: w :: v :: w :: st) h) : sd_J G X Q M pc lo (v :: w :: st) h := fun hB H locs ls hH hS hl hf => by
  obtain ⟨d, rfl⟩ := d
  exact lv_dup2_11 hB.1 hB.2.1 d hv hw (k hB H locs ls hH hS hl hf)
theorem sd_ldc {idx : Nat} {v : Int32} (d : sd_d M pc (.ldc idx) 2 pc') (hw : Cond.constant M.1.cls idx v ∈ sd_tb) (k : sd_J G X Q M pc' lo (.int v :: st) h) : sd_J G X Q M pc lo st h := fun hB H locs ls hH hS hl hf => by
  obtain ⟨d, rfl⟩ := d
  exact lv_ldc hB.1 hB.2.1 hB.2.2.2.2.1 (hB.2.2.2.2.2.1 _ hw) d (k hB H locs ls hH hS hl hf)
theorem sd_ldcw {idx : Nat} {v : Int32} (d : sd_d M pc (.ldc_w idx) 3 pc') (hw : Cond.constant M.1.cls idx v ∈ sd_tb) (k : sd_J G X Q M pc' lo (.int v :: st) h) : sd_J G X Q M pc lo st h := fun hB H locs ls hH hS hl hf => by
  obtain ⟨d, rfl⟩ := d
  exact lv_ldcw hB.1 hB.2.1 hB.2.2.2.2.1 (hB.2.2.2.2.2.1 _ hw) d (k hB H locs ls hH hS hl hf)
theorem sd_ldcf {idx : Nat} {v : UInt32} (d : sd_d M pc (.ldc idx) 2 pc') (hw : Cond.constantFloat M.1.cls idx v ∈ sd_tb) (k : sd_J G X Q M pc' lo (.float v :: st) h) : sd_J G X Q M pc lo st h := fun hB H locs ls hH hS hl hf => by
  obtain ⟨d, rfl⟩ := d
  exact lv_ldcf hB.1 hB.2.1 hB.2.2.2.2.1 (hB.2.2.2.2.2.1 _ hw) d (k hB H locs ls hH hS hl hf)
theorem sd_ldc2 {idx : Nat} {v : Int64} (d : sd_d M pc (.ldc2_w idx) 3 pc') (hw : Cond.constantLong M.1.cls idx v ∈ sd_tb) (k : sd_J G X Q M pc' lo (.long v :: st) h) : sd_J G X Q M pc lo st h := fun hB H locs ls hH hS hl hf => by
  obtain ⟨d, rfl⟩ := d
  exact lv_ldc2 hB.1 hB.2.1 hB.2.2.2.2.1 (hB.2.2.2.2.2.1 _ hw) d (k hB H locs ls hH hS hl hf)
theorem sd_ldc2d {idx : Nat} {v : UInt64} (d : sd_d M pc (.ldc2_w idx) 3 pc') (hw : Cond.constantDouble M.1.cls idx v ∈ sd_tb) (k : sd_J G X Q M pc' lo (.double v :: st) h) : sd_J G X Q M pc lo st h := fun hB H locs ls hH hS hl hf => by
  obtain ⟨d, rfl⟩ := d
  exact lv_ldc2d hB.1 hB.2.1 hB.2.2.2.2.1 (hB.2.2.2.2.2.1 _ hw) d (k hB H locs ls hH hS hl hf)
theorem sd_if_eq {x : Int32} {off : Int} (d : sd_b M pc (.ifCond .eq off) 3 pc' off tgt) (kt : x = 0 → sd_J G X Q M tgt lo st h) (kf : ¬ x = 0 → sd_J G X Q M pc' lo st h) : sd_J G X Q M pc lo (.int x :: st) h := fun hB H locs ls hH hS hl hf => by
  obtain ⟨d, rfl, ht⟩ := d
  exact lv_if_eq hB.1 hB.2.1 d ht (fun q => kt q hB H locs ls hH hS hl hf) (fun q => kf q hB H locs ls hH hS hl hf)
theorem sd_if_ne {x : Int32} {off : Int} (d : sd_b M pc (.ifCond .ne off) 3 pc' off tgt) (kt : ¬ x = 0 → sd_J G X Q M tgt lo st h) (kf : x = 0 → sd_J G X Q M pc' lo st h) : sd_J G X Q M pc lo (.int x :: st) h := fun hB H locs ls hH hS hl hf => by
  obtain ⟨d, rfl, ht⟩ := d
  exact lv_if_ne hB.1 hB.2.1 d ht (fun q => kt q hB H locs ls hH hS hl hf) (fun q => kf q hB H locs ls hH hS hl hf)
theorem sd_if_lt {x : Int32} {off : Int} (d : sd_b M pc (.ifCond .lt off) 3 pc' off tgt) (kt : x < 0 → sd_J G X Q M tgt lo st h) (kf : ¬ x < 0 → sd_J G X Q M pc' lo st h) : sd_J G X Q M pc lo (.int x :: st) h := fun hB H locs ls hH hS hl hf => by
  obtain ⟨d, rfl, ht⟩ := d
  exact lv_if_lt hB.1 hB.2.1 d ht (fun q => kt q hB H locs ls hH hS hl hf) (fun q => kf q hB H locs ls hH hS hl hf)
theorem sd_if_ge {x : Int32} {off : Int} (d : sd_b M pc (.ifCond .ge off) 3 pc' off tgt) (kt : 0 ≤ x → sd_J G X Q M tgt lo st h) (kf : ¬ 0 ≤ x → sd_J G X Q M pc' lo st h) : sd_J G X Q M pc lo (.int x :: st) h := fun hB H locs ls hH hS hl hf => by
  obtain ⟨d, rfl, ht⟩ := d
  exact lv_if_ge hB.1 hB.2.1 d ht (fun q => kt q hB H locs ls hH hS hl hf) (fun q => kf q hB H locs ls hH hS hl hf)
theorem sd_if_gt {x : Int32} {off : Int} (d : sd_b M pc (.ifCond .gt off) 3 pc' off tgt) (kt : 0 < x → sd_J G X Q M tgt lo st h) (kf : ¬ 0 < x → sd_J G X Q M pc' lo st h) : sd_J G X Q M pc lo (.int x :: st) h := fun hB H locs ls hH hS hl hf => by
  obtain ⟨d, rfl, ht⟩ := d
  exact lv_if_gt hB.1 hB.2.1 d ht (fun q => kt q hB H locs ls hH hS hl hf) (fun q => kf q hB H locs ls hH hS hl hf)
theorem sd_if_le {x : Int32} {off : Int} (d : sd_b M pc (.ifCond .le off) 3 pc' off tgt) (kt : x ≤ 0 → sd_J G X Q M tgt lo st h) (kf : ¬ x ≤ 0 → sd_J G X Q M pc' lo st h) : sd_J G X Q M pc lo (.int x :: st) h := fun hB H locs ls hH hS hl hf => by
  obtain ⟨d, rfl, ht⟩ := d
  exact lv_if_le hB.1 hB.2.1 d ht (fun q => kt q hB H locs ls hH hS hl hf) (fun q => kf q hB H locs ls hH hS hl hf)
theorem sd_icmp_eq {x y : Int32} {off : Int} (d : sd_b M pc (.if_icmp .eq off) 3 pc' off tgt) (kt : x = y → sd_J G X Q M tgt lo st h) (kf : ¬ x = y → sd_J G X Q M pc' lo st h) : sd_J G X Q M pc lo (.int y :: .int x :: st) h := fun hB H locs ls hH hS hl hf => by
  obtain ⟨d, rfl, ht⟩ := d
  exact lv_icmp_eq hB.1 hB.2.1 d ht (fun q => kt q hB H locs ls hH hS hl hf) (fun q => kf q hB H locs ls hH hS hl hf)
theorem sd_icmp_ne {x y : Int32} {off : Int} (d : sd_b M pc (.if_icmp .ne off) 3 pc' off tgt) (kt : ¬ x = y → sd_J G X Q M tgt lo st h) (kf : x = y → sd_J G X Q M pc' lo st h) : sd_J G X Q M pc lo (.int y :: .int x :: st) h := fun hB H locs ls hH hS hl hf => by
  obtain ⟨d, rfl, ht⟩ := d
  exact lv_icmp_ne hB.1 hB.2.1 d ht (fun q => kt q hB H locs ls hH hS hl hf) (fun q => kf q hB H locs ls hH hS hl hf)
theorem sd_icmp_lt {x y : Int32} {off : Int} (d : sd_b M pc (.if_icmp .lt off) 3 pc' off tgt) (kt : x < y → sd_J G X Q M tgt lo st h) (kf : ¬ x < y → sd_J G X Q M pc' lo st h) : sd_J G X Q M pc lo (.int y :: .int x :: st) h := fun hB H locs ls hH hS hl hf => by
  obtain ⟨d, rfl, ht⟩ := d
  exact lv_icmp_lt hB.1 hB.2.1 d ht (fun q => kt q hB H locs ls hH hS hl hf) (fun q => kf q hB H locs ls hH hS hl hf)
theorem sd_icmp_ge {x y : Int32} {off : Int} (d : sd_b M pc (.if_icmp .ge off) 3 pc' off tgt) (kt : y ≤ x → sd_J G X Q M tgt lo st h) (kf : ¬ y ≤ x → sd_J G X Q M pc' lo st h) : sd_J G X Q M pc lo (.int y :: .int x :: st) h := fun hB H locs ls hH hS hl hf => by
  obtain ⟨d, rfl, ht⟩ := d
  exact lv_icmp_ge hB.1 hB.2.1 d ht (fun q => kt q hB H locs ls hH hS hl hf) (fun q => kf q hB H locs ls hH hS hl hf)
theorem sd_icmp_gt {x y : Int32} {off : Int} (d : sd_b M pc (.if_icmp .gt off) 3 pc' off tgt) (kt : y < x → sd_J G X Q M tgt lo st h) (kf : ¬ y < x → sd_J G X Q M pc' lo st h) : sd_J G X Q M pc lo (.int y :: .int x :: st) h := fun hB H locs ls hH hS hl hf => by
  obtain ⟨d, rfl, ht⟩ := d
  exact lv_icmp_gt hB.1 hB.2.1 d ht (fun q => kt q hB H locs ls hH hS hl hf) (fun q => kf q hB H locs ls hH hS hl hf)
theorem sd_icmp_le {x y : Int32} {off : Int} (d : sd_b M pc (.if_icmp .le off) 3 pc' off tgt) (kt : x ≤ y → sd_J G X Q M tgt lo st h) (kf : ¬ x ≤ y → sd_J G X Q M pc' lo st h) : sd_J G X Q M pc lo (.int y :: .int x :: st) h := fun hB H locs ls hH hS hl hf => by
  obtain ⟨d, rfl, ht⟩ := d
  exact lv_icmp_le hB.1 hB.2.1 d ht (fun q => kt q hB H locs ls hH hS hl hf) (fun q => kf q hB H locs ls hH hS hl hf)
theorem sd_goto {off : Int} (d : sd_b M pc (.goto off) 3 pc' off tgt) (k : sd_J G X Q M tgt lo st h) : sd_J G X Q M pc lo st h := fun hB H locs ls hH hS hl hf => by
  obtain ⟨d, -, ht⟩ := d
  exact lv_goto hB.1 hB.2.1 d ht (k hB H locs ls hH hS hl hf)

theorem sd_tswIn {dflt lo0 hi0 : Int} {offs : Array Int} {len : Nat} {x : Int32} {off : Int} (d : sd_b M pc (.tableswitch dflt lo0 hi0 offs) len pc' off tgt) (h1 : ¬ x.toInt < lo0) (h2 : ¬ hi0 < x.toInt) (ho : offs[(x.toInt - lo0).toNat]? = some off) (k : sd_J G X Q M tgt lo st h) : sd_J G X Q M pc lo (.int x :: st) h := fun hB H locs ls hH hS hl hf => by
  obtain ⟨d, -, ht⟩ := d
  exact lv_tableIn hB.1 hB.2.1 d h1 h2 ho ht (k hB H locs ls hH hS hl hf)
theorem sd_tswOut {dflt lo0 hi0 : Int} {offs : Array Int} {len : Nat} {x : Int32} (d : sd_b M pc (.tableswitch dflt lo0 hi0 offs) len pc' dflt tgt) (h1 : x.toInt < lo0 ∨ hi0 < x.toInt) (k : sd_J G X Q M tgt lo st h) : sd_J G X Q M pc lo (.int x :: st) h := fun hB H locs ls hH hS hl hf => by
  obtain ⟨d, -, ht⟩ := d
  exact lv_tableOut hB.1 hB.2.1 d h1 ht (k hB H locs ls hH hS hl hf)
theorem sd_lsw {dflt : Int} {ps : Array (Int × Int)} {len : Nat} {x : Int32} {off : Int} (d : sd_b M pc (.lookupswitch dflt ps) len pc' off tgt) (hp : (ps.toList.zip (ps.toList.drop 1)).all (fun (a, next) => a.1 < next.1) = true) (ho : Op.lookupswitch.offset ps.toList dflt x.toInt = off) (k : sd_J G X Q M tgt lo st h) : sd_J G X Q M pc lo (.int x :: st) h := fun hB H locs ls hH hS hl hf => by
  obtain ⟨d, -, ht⟩ := d
  exact lv_lookup hB.1 hB.2.1 d hp ho ht (k hB H locs ls hH hS hl hf)
end SJ
/-! ===== the world's cells by their numbers ===== -/
theorem sd_W_at (G : sd_GX) {h : sd_HX} {c : Nat} (hc : c < h.1) : (sd_W G h)[c]? = some (G.1 + c, sd_cel G h c) := by
  unfold sd_W
  rw [List.getElem?_map, List.getElem?_range hc]
  rfl
theorem sd_W_len (G : sd_GX) (h : sd_HX) : (sd_W G h).length = h.1 := by
  unfold sd_W
  rw [List.length_map, List.length_range]
theorem sd_W_no (G : sd_GX) {h : sd_HX} {c : Nat} (hc : h.1 ≤ c) : (sd_W G h)[c]? = none := List.getElem?_eq_none (by rw [sd_W_len]; exact hc)
theorem sd_W_D (G : sd_GX) (h : sd_HX) : va_D (sd_A G) (sd_W G h) := by
  have key : ∀ (k : Nat) (q : Nat × va_E), (sd_W G h)[k]? = some q → q.1 = G.1 + k := by
    intro k q hk
    by_cases hc : k < h.1
    · rw [sd_W_at G hc] at hk
      cases hk
      rfl
    · rw [sd_W_no G (Nat.le_of_not_lt hc)] at hk
      cases hk
  refine ⟨fun i j p q hi hj hpq => ?_, fun k q hk => ?_⟩
  · have h1 := key i p hi
    have h2 := key j q hj
    omega
  · have h1 := key k q hk
    show G.1 ≤ q.1
    omega
/-- two heaps that agree on what their cells hold -/
theorem sd_W_congr (G : sd_GX) {h g : sd_HX} (hn : h.1 = g.1) (hc : ∀ c, c < h.1 → sd_cel G h c = sd_cel G g c) : sd_W G h = sd_W G g := by
  apply List.ext_getElem?
  intro k
  by_cases hk : k < h.1
  · rw [sd_W_at G hk, sd_W_at G (hn ▸ hk), hc k hk]
  · rw [sd_W_no G (Nat.le_of_not_lt hk), sd_W_no G (by omega)]
theorem sd_W_set (G : sd_GX) {h g : sd_HX} {c : Nat} {e : va_E} (hn : h.1 = g.1) (hc : c < h.1) (he : sd_cel G g c = e) (ho : ∀ k, k < h.1 → k ≠ c → sd_cel G g k = sd_cel G h k) : (sd_W G h).set c (G.1 + c, e) = sd_W G g := by
  apply List.ext_getElem?
  intro k
  by_cases hk : k < h.1
  · rw [sd_W_at G (hn ▸ hk)]
    by_cases hkc : k = c
    · subst hkc
      rw [List.getElem?_set_self (by rw [sd_W_len]; exact hk), he]
    · rw [List.getElem?_set_ne (Ne.symm hkc), sd_W_at G hk, ho k hk hkc]
  · rw [sd_W_no G (by omega), List.getElem?_eq_none (by rw [List.length_set, sd_W_len]; omega)]
theorem sd_W_push (G : sd_GX) {h g : sd_HX} {e : va_E} (hn : g.1 = h.1 + 1) (he : sd_cel G g h.1 = e) (ho : ∀ k, k < h.1 → sd_cel G g k = sd_cel G h k) : sd_W G h ++ [(G.1 + h.1, e)] = sd_W G g := by
  apply List.ext_getElem?
  intro k
  by_cases hk : k < h.1
  · rw [List.getElem?_append_left (by rw [sd_W_len]; exact hk), sd_W_at G hk, sd_W_at G (by omega), ho k hk]
  · rw [List.getElem?_append_right (by rw [sd_W_len]; omega), sd_W_len]
    by_cases hk2 : k = h.1
    · subst hk2
      rw [Nat.sub_self, sd_W_at G (by omega), he]
      rfl
    · rw [sd_W_no G (by omega), List.getElem?_eq_none (by simp; omega)]
theorem sd_clsAt {ci : Nat} (hc : ci < 13) : sd_cls[ci]? = some (sd_C ci) := match ci, hc with
  | 0, _ => rfl | 1, _ => rfl | 2, _ => rfl | 3, _ => rfl | 4, _ => rfl | 5, _ => rfl | 6, _ => rfl | 7, _ => rfl | 8, _ => rfl | 9, _ => rfl | 10, _ => rfl | 11, _ => rfl | 12, _ => rfl
theorem sd_SHlt {c ci n : Nat} (hs : sd_SH c = (ci, n)) (h : ci < 900) : c < sd_NT := by
  rcases Nat.lt_or_ge c sd_NT with q | q
  · exact q
  · have : sd_SH c = (999, 0) := by
      unfold sd_SH
      rw [List.getD_eq_getElem?_getD, List.getElem?_eq_none (by exact q)]
      rfl
    rw [this] at hs
    cases hs
    omega
theorem sd_cel_o (G : sd_GX) (h : sd_HX) {c ci n : Nat} (hs : sd_SH c = (ci, n)) (hci : ci < 100) : sd_cel G h c = .inr (ci, (List.range n).map (fun j => sd_fv G.1 h ci c j)) := by
  unfold sd_cel
  rw [hs, if_pos hci]
theorem sd_cel_a (G : sd_GX) (h : sd_HX) {c t n : Nat} (hs : sd_SH c = (t, n)) (ht : ¬ t < 100) : sd_cel G h c = .inl (G.2.2.2.1 t, n, sd_arr G.1 h t c) := by
  unfold sd_cel
  rw [hs, if_neg ht]

theorem sd_inX0 : ∀ w ∈ u_ws RX0 TX0 3, w ∈ sd_tb := by
  have e : u_ws RX0 TX0 3 = ([282, 284, 286] : List Nat).filterMap (fun i => lw_tbl[i]?) := by decide +kernel
  have g : (u_ws RX0 TX0 3).all goodWord = true := by decide +kernel
  intro w hw
  have hg := List.all_eq_true.mp g w hw
  rw [e] at hw
  obtain ⟨i, -, hi⟩ := List.mem_filterMap.mp hw
  exact sd_mem ⟨hi, hg⟩
theorem sd_inX1 : ∀ w ∈ u_ws RX1 TX1 4, w ∈ sd_tb := by
  have e : u_ws RX1 TX1 4 = ([348, 350, 352, 354] : List Nat).filterMap (fun i => lw_tbl[i]?) := by decide +kernel
  have g : (u_ws RX1 TX1 4).all goodWord = true := by decide +kernel
  intro w hw
  have hg := List.all_eq_true.mp g w hw
  rw [e] at hw
  obtain ⟨i, -, hi⟩ := List.mem_filterMap.mp hw
  exact sd_mem ⟨hi, hg⟩
theorem sd_inX2 : ∀ w ∈ u_ws RX2 TX2 3, w ∈ sd_tb := by
  have e : u_ws RX2 TX2 3 = ([263, 265, 267] : List Nat).filterMap (fun i => lw_tbl[i]?) := by decide +kernel
  have g : (u_ws RX2 TX2 3).all goodWord = true := by decide +kernel
  intro w hw
  have hg := List.all_eq_true.mp g w hw
  rw [e] at hw
  obtain ⟨i, -, hi⟩ := List.mem_filterMap.mp hw
  exact sd_mem ⟨hi, hg⟩
theorem sd_inX4 : ∀ w ∈ u_ws RX4 TX4 4, w ∈ sd_tb := by
  have e : u_ws RX4 TX4 4 = ([415, 417, 419, 421] : List Nat).filterMap (fun i => lw_tbl[i]?) := by decide +kernel
  have g : (u_ws RX4 TX4 4).all goodWord = true := by decide +kernel
  intro w hw
  have hg := List.all_eq_true.mp g w hw
  rw [e] at hw
  obtain ⟨i, -, hi⟩ := List.mem_filterMap.mp hw
  exact sd_mem ⟨hi, hg⟩
theorem sd_inX5 : ∀ w ∈ u_ws RX5 TX5 4, w ∈ sd_tb := by
  have e : u_ws RX5 TX5 4 = ([201, 203, 205, 207] : List Nat).filterMap (fun i => lw_tbl[i]?) := by decide +kernel
  have g : (u_ws RX5 TX5 4).all goodWord = true := by decide +kernel
  intro w hw
  have hg := List.all_eq_true.mp g w hw
  rw [e] at hw
  obtain ⟨i, -, hi⟩ := List.mem_filterMap.mp hw
  exact sd_mem ⟨hi, hg⟩
theorem sd_inX6 : ∀ w ∈ u_ws RX6 TX6 4, w ∈ sd_tb := by
  have e : u_ws RX6 TX6 4 = ([154, 156, 158, 160] : List Nat).filterMap (fun i => lw_tbl[i]?) := by decide +kernel
  have g : (u_ws RX6 TX6 4).all goodWord = true := by decide +kernel
  intro w hw
  have hg := List.all_eq_true.mp g w hw
  rw [e] at hw
  obtain ⟨i, -, hi⟩ := List.mem_filterMap.mp hw
  exact sd_mem ⟨hi, hg⟩
theorem sd_inX7 : ∀ w ∈ u_ws RX7 TX7 11, w ∈ sd_tb := by
  have e : u_ws RX7 TX7 11 = ([376, 378, 380, 382, 384, 386, 388, 390, 392, 394, 396] : List Nat).filterMap (fun i => lw_tbl[i]?) := by decide +kernel
  have g : (u_ws RX7 TX7 11).all goodWord = true := by decide +kernel
  intro w hw
  have hg := List.all_eq_true.mp g w hw
  rw [e] at hw
  obtain ⟨i, -, hi⟩ := List.mem_filterMap.mp hw
  exact sd_mem ⟨hi, hg⟩
theorem sd_inX8 : ∀ w ∈ u_ws RX8 TX8 3, w ∈ sd_tb := by
  have e : u_ws RX8 TX8 3 = ([334, 336, 338] : List Nat).filterMap (fun i => lw_tbl[i]?) := by decide +kernel
  have g : (u_ws RX8 TX8 3).all goodWord = true := by decide +kernel
  intro w hw
  have hg := List.all_eq_true.mp g w hw
  rw [e] at hw
  obtain ⟨i, -, hi⟩ := List.mem_filterMap.mp hw
  exact sd_mem ⟨hi, hg⟩
theorem sd_inX9 : ∀ w ∈ u_ws RX9 TX9 6, w ∈ sd_tb := by
  have e : u_ws RX9 TX9 6 = ([235, 237, 239, 241, 243, 245] : List Nat).filterMap (fun i => lw_tbl[i]?) := by decide +kernel
  have g : (u_ws RX9 TX9 6).all goodWord = true := by decide +kernel
  intro w hw
  have hg := List.all_eq_true.mp g w hw
  rw [e] at hw
  obtain ⟨i, -, hi⟩ := List.mem_filterMap.mp hw
  exact sd_mem ⟨hi, hg⟩
theorem sd_inX10 : ∀ w ∈ u_ws RX10 TX10 6, w ∈ sd_tb := by
  have e : u_ws RX10 TX10 6 = ([304, 306, 308, 310, 312, 314] : List Nat).filterMap (fun i => lw_tbl[i]?) := by decide +kernel
  have g : (u_ws RX10 TX10 6).all goodWord = true := by decide +kernel
  intro w hw
  have hg := List.all_eq_true.mp g w hw
  rw [e] at hw
  obtain ⟨i, -, hi⟩ := List.mem_filterMap.mp hw
  exact sd_mem ⟨hi, hg⟩
theorem sd_inX11 : ∀ w ∈ u_ws RX11 TX11 17, w ∈ sd_tb := by
  have e : u_ws RX11 TX11 17 = ([441, 443, 445, 447, 449, 451, 453, 455, 457, 459, 461, 463, 465, 467, 469, 471, 473] : List Nat).filterMap (fun i => lw_tbl[i]?) := by decide +kernel
  have g : (u_ws RX11 TX11 17).all goodWord = true := by decide +kernel
  intro w hw
  have hg := List.all_eq_true.mp g w hw
  rw [e] at hw
  obtain ⟨i, -, hi⟩ := List.mem_filterMap.mp hw
  exact sd_mem ⟨hi, hg⟩
theorem sd_inX12 : ∀ w ∈ u_ws RX12 TX12 47, w ∈ sd_tb := by
  have e : u_ws RX12 TX12 47 = ([1195, 1197, 1199, 1201, 1203, 1205, 1207, 1209, 1211, 1213, 1215, 1217, 1219, 1221, 1223, 1225, 1227, 1229, 1231, 1233, 1235, 1237, 1239, 1241, 1243, 1245, 1247, 1249, 1251, 1253, 1255, 1257, 1259, 1261, 1263, 1265, 1267, 1269, 1271, 1273, 1275, 1277, 1279, 1281, 1283, 1285, 1287] : List Nat).filterMap (fun i => lw_tbl[i]?) := by decide +kernel
  have g : (u_ws RX12 TX12 47).all goodWord = true := by decide +kernel
  intro w hw
  have hg := List.all_eq_true.mp g w hw
  rw [e] at hw
  obtain ⟨i, -, hi⟩ := List.mem_filterMap.mp hw
  exact sd_mem ⟨hi, hg⟩
theorem sd_in {ci : Nat} (hc : ci < 13) : ∀ w ∈ u_ws (sd_C ci).1 (sd_C ci).2.1 (sd_C ci).2.2, w ∈ sd_tb := match ci, hc with
  | 0, _ => sd_inX0
  | 1, _ => sd_inX1
  | 2, _ => sd_inX2
  | 3, _ => sd_inX0
  | 4, _ => sd_inX4
  | 5, _ => sd_inX5
  | 6, _ => sd_inX6
  | 7, _ => sd_inX7
  | 8, _ => sd_inX8
  | 9, _ => sd_inX9
  | 10, _ => sd_inX10
  | 11, _ => sd_inX11
  | 12, _ => sd_inX12
def sd_ty (ci : Nat) : Nat → FieldType := [tyX0, tyX1, tyX2, tyX0, tyX4, tyX5, tyX6, tyX7, tyX8, tyX9, tyX10, tyX11, tyX12].getD ci tyX0
theorem sd_tyok {ci : Nat} (hc : ci < 13) : ∀ k, k < (sd_C ci).2.2 → parseFieldDescriptor ((sd_C ci).2.1 k).2.2.1 = some (sd_ty ci k) := match ci, hc with
  | 0, _ => tyX0_ok
  | 1, _ => tyX1_ok
  | 2, _ => tyX2_ok
  | 3, _ => tyX0_ok
  | 4, _ => tyX4_ok
  | 5, _ => tyX5_ok
  | 6, _ => tyX6_ok
  | 7, _ => tyX7_ok
  | 8, _ => tyX8_ok
  | 9, _ => tyX9_ok
  | 10, _ => tyX10_ok
  | 11, _ => tyX11_ok
  | 12, _ => tyX12_ok
theorem sd_nm {ci : Nat} (hc : ci < 13) : ∀ a, a < (sd_C ci).2.2 → ∀ b, b < (sd_C ci).2.2 → a ≠ b → ((sd_C ci).2.1 a).2.1 ≠ ((sd_C ci).2.1 b).2.1 := match ci, hc with
  | 0, _ => nmX0
  | 1, _ => nmX1
  | 2, _ => nmX2
  | 3, _ => nmX0
  | 4, _ => nmX4
  | 5, _ => nmX5
  | 6, _ => nmX6
  | 7, _ => nmX7
  | 8, _ => nmX8
  | 9, _ => nmX9
  | 10, _ => nmX10
  | 11, _ => nmX11
  | 12, _ => nmX12
/-- a field's word: class number ci, field k -/
abbrev sd_fl (own : String) (idx ci k : Nat) : Prop := Cond.fieldLink own idx ((sd_C ci).2.1 k).1 ((sd_C ci).2.1 k).2.1 ((sd_C ci).2.1 k).2.2.1 ∈ sd_tb ∧ ci < 13 ∧ k < (sd_C ci).2.2
section SF
variable {G : sd_GX} {X : sd_CX} {Q : State → Prop} {M : sd_MX} {pc pc' tgt : Nat} {lo lo' : List (Nat × Value)} {st : List Value} {h : sd_HX}
theorem sd_get {idx ci k c : Nat} (d : sd_d M pc (.getfield idx) 3 pc') (hw : sd_fl M.1.cls idx ci k) (hs : sd_SH c = (ci, (sd_C ci).2.2)) (hc : c < h.1) (kk : sd_J G X Q M pc' lo (sd_fv G.1 h ci c k :: st) h) : sd_J G X Q M pc lo (.ref (G.1 + c) :: st) h := fun hB H locs ls hH hS hl hf => by
  obtain ⟨d, rfl⟩ := d
  obtain ⟨hw, hci, hk⟩ := hw
  have he := sd_W_at G hc
  rw [sd_cel_o G h hs (by omega)] at he
  exact va_get hB.1 hB.2.1 hB.2.2.2.2.2.1 (sd_in hci) hB.2.2.2.2.1 hB.2.2.2.2.2.2.2.2.2.1 hH.1 c he (sd_clsAt hci) k hk (hB.2.2.2.2.2.1 _ hw) (fun _ q => q) (v := sd_fv G.1 h ci c k) (by rw [List.getElem?_map, List.getElem?_range hk]; rfl) d (kk hB H locs ls hH hS hl hf)
/-- the heap with another value in a slot of ints -/
abbrev sd_wi (h : sd_HX) (c k : Nat) (v : Int32) : sd_HX := (h.1, fun c' k' => if c' = c ∧ k' = k then v else h.2.1 c' k', h.2.2)
abbrev sd_wd (h : sd_HX) (c k : Nat) (v : UInt64) : sd_HX := (h.1, h.2.1, fun c' k' => if c' = c ∧ k' = k then v else h.2.2.1 c' k', h.2.2.2)
abbrev sd_wr (h : sd_HX) (c k : Nat) (v : Option Nat) : sd_HX := (h.1, h.2.1, h.2.2.1, fun c' k' => if c' = c ∧ k' = k then v else h.2.2.2 c' k')
theorem sd_HR.to {h g : sd_HX} {H H1 : Heap} (hH : sd_HR G h H) (hn : h.1 = g.1) (hz : H1.size = H.size) (hP : va_P (sd_dD G) sd_cls (sd_W G g) H1) : sd_HR G g H1 := ⟨hP, by rw [hz, hH.2.1, hn], hn ▸ hH.2.2⟩
theorem sd_put0 {idx ci k c : Nat} {g : sd_HX} {ty : FieldType} {v : Value} (d : sd_d M pc (.putfield idx) 3 pc') (hw : sd_fl M.1.cls idx ci k) (hs : sd_SH c = (ci, (sd_C ci).2.2)) (hc : c < h.1) (hty : sd_ty ci k = ty) (hfin : ((sd_C ci).2.1 k).2.2.2 = false ∨ (M.1.name = "<init>" ∧ ((sd_C ci).2.1 k).2.2.2 = true ∧ ((sd_C ci).2.1 k).1 = M.1.cls)) (hn : narrow ty v = v) (hfit : fits ty v = true)
    (hg : h.1 = g.1) (hset : (sd_W G h).set c (G.1 + c, .inr (ci, ((List.range (sd_C ci).2.2).map (fun j => sd_fv G.1 h ci c j)).set k v)) = sd_W G g) (kk : sd_J G X Q M pc' lo st g) : sd_J G X Q M pc lo (v :: .ref (G.1 + c) :: st) h := fun hB H locs ls hH hS hl hf => by
  obtain ⟨d, rfl⟩ := d
  obtain ⟨hw, hci, hk⟩ := hw
  have he := sd_W_at G hc
  rw [sd_cel_o G h hs (by omega)] at he
  have hlen : k < ((List.range (sd_C ci).2.2).map (fun j => sd_fv G.1 h ci c j)).length := by rw [List.length_map, List.length_range]; exact hk
  have key : ∀ (H1 : Heap) (locs1 : List Loc), va_P (sd_dD G) sd_cls ((sd_W G h).set c (G.1 + c, .inr (ci, ((List.range (sd_C ci).2.2).map (fun j => sd_fv G.1 h ci c j)).set k v))) H1 → H1.size = H.size → va_S (sd_A G) (sd_s X).heap H1 locs1 →
      W X.1 X.2.1 X.2.2.1 X.2.2.2.1 (sd_s X) X.2.2.2.2.2.1 X.2.2.2.2.2.2.1 X.2.2.2.2.2.2.2.1 X.2.2.2.2.2.2.2.2.1 X.2.2.2.2.2.2.2.2.2 H1 locs1 (sd_kc G X h) (sd_ks G X h) Q (F0 X.2.2.2.2.2.1 (pc + 3) ls st) := by
    intro H1 locs1 hP hz hS1
    rw [hset] at hP
    have h2 := kk hB H1 locs1 ls (hH.to hg hz hP) hS1 hl (by unfold sd_fit sd_kc sd_ks at hf ⊢; rw [← hg]; exact hf)
    unfold sd_kc sd_ks at h2 ⊢
    rw [hg]
    exact h2
  have hts := hB.2.2.2.2.2.1
  have hin := sd_in hci
  have hK := hB.2.2.2.2.2.2.2.2.2.1
  have hown := hB.2.2.2.2.1
  have hcl := sd_clsAt hci
  have hap := va_apart (own := M.1.cls) hts hin (sd_ty ci) (sd_tyok hci) (sd_nm hci) hK hcl
  have hD := sd_W_D G h
  obtain ⟨r, h1, cell, q1, q2, q3, q4⟩ := hH.1 c _ he
  have hr : r = sd_C ci := Option.some.inj (h1.symm.trans hcl)
  subst hr
  obtain ⟨hSl, hfc, kC, hkC, hkind⟩ := hK.1 ci _ hcl
  obtain ⟨cf, kf, fi, f, hi, hsl⟩ := hSl k hk
  have hlay := hts _ (hin _ (u_in_lay hk))
  have hst := (u_facts hfc hkC (u_lays hts hin hk) hi).1
  have hd := sd_tyok hci k hk
  rw [hty] at hd
  have fin : ∀ H' : Heap, H'[G.1 + c]? = some (cell.setSlot f.slot v) → H'.size = H.size → (∀ q, q ≠ G.1 + c → H'[q]? = H[q]?) →
      W X.1 X.2.1 X.2.2.1 X.2.2.2.1 (sd_s X) X.2.2.2.2.2.1 X.2.2.2.2.2.2.1 X.2.2.2.2.2.2.2.1 X.2.2.2.2.2.2.2.2.1 X.2.2.2.2.2.2.2.2.2 H' (locs ++ [⟨G.1 + c, f.slot⟩]) (sd_kc G X h) (sd_ks G X h) Q (F0 X.2.2.2.2.2.1 (pc + 3) ls st) := by
    intro H' e1 e2 e3
    rw [hsl] at e1 ⊢
    exact key H' _ (hH.1.set hD he ⟨_, hcl, t_OB.to (V := updV (vp_V _) k v) ⟨_, e1, q2, q3, t_set q4 hap hk v⟩ (fun j _ => vp_updV_set hlen v j)⟩ e3) e2 (hS.put e2 e3 (show G.1 ≤ G.1 + c by omega))
  rcases hfin with hfin | ⟨hin2, hfin, hdecl⟩
  · unfold u_lay at hlay
    rw [if_neg (by rw [hfin]; decide)] at hlay
    have h6 := u_store hfc hkC hkind hlay hi hd hn hfit
    exact W.putK hB.1 hB.2.1 (f := f) ⟨hown, hts _ hw, ⟨_, _, _, hi⟩, hst⟩ (by rw [q2]; exact h6) q1 q3 (by rw [hsl]; exact k2_hasslot (q4 k hk)) rfl rfl d fin
  · unfold u_lay at hlay
    rw [if_pos hfin] at hlay
    have hcf : (X.2.2.2.2.2.1).cls = cf := by
      obtain ⟨_, _, c', _, _, _, -, -, hf', -, -, -, hown2, -⟩ := Cond.laysFinal_spec hlay
      have e1 : c' = cf := by have := hi.symm.trans hf'; simp at this; exact this.1.symm
      rw [hdecl] at hown2
      rw [← e1]; exact Option.some.inj (hown.symm.trans hown2)
    have h6 := u_fits hfc hkC hkind (Or.inr hlay) hi hd hn hfit
    exact W.putFinK hB.1 hB.2.1 hown (hts _ hw) hi hst hcf ((hB.2.2.2.2.2.2.2.1 hin2).trans hin2) (by rw [q2]; exact h6) q1 q3 (by rw [hsl]; exact k2_hasslot (q4 k hk)) rfl rfl d fin
theorem sd_cel_ext (G : sd_GX) {h g : sd_HX} {k : Nat} (h1 : ∀ j, g.2.1 k j = h.2.1 k j) (h2 : ∀ j, g.2.2.1 k j = h.2.2.1 k j) (h3 : ∀ j, g.2.2.2 k j = h.2.2.2 k j) : sd_cel G g k = sd_cel G h k := by
  have e1 : g.2.1 k = h.2.1 k := funext h1
  have e2 : g.2.2.1 k = h.2.2.1 k := funext h2
  have e3 : g.2.2.2 k = h.2.2.2 k := funext h3
  unfold sd_cel sd_arr sd_fv
  rw [e1, e2, e3]
theorem sd_set_map (N k : Nat) (f g : Nat → Value) (v : Value) (h1 : g k = v) (h2 : ∀ j, j ≠ k → g j = f j) : ((List.range N).map f).set k v = (List.range N).map g := by
  apply List.ext_getElem?
  intro j
  by_cases hj : j < N
  · by_cases hjk : j = k
    · subst hjk
      rw [List.getElem?_set_self (by rw [List.length_map, List.length_range]; exact hj), List.getElem?_map, List.getElem?_range hj, ← h1]
      rfl
    · rw [List.getElem?_set_ne (Ne.symm hjk), List.getElem?_map, List.getElem?_map, List.getElem?_range hj]
      show some (f j) = some (g j)
      rw [h2 j hjk]
  · rw [List.getElem?_eq_none (by rw [List.length_set, List.length_map, List.length_range]; omega), List.getElem?_eq_none (by rw [List.length_map, List.length_range]; omega)]
theorem sd_wi_ne (G : sd_GX) (h : sd_HX) {c k q : Nat} (v : Int32) (hq : q ≠ c) : sd_cel G (sd_wi h c k v) q = sd_cel G h q := sd_cel_ext G (fun j => by show (if q = c ∧ j = k then v else h.2.1 q j) = _; rw [if_neg (fun z => hq z.1)]) (fun _ => rfl) (fun _ => rfl)
theorem sd_wd_ne (G : sd_GX) (h : sd_HX) {c k q : Nat} (v : UInt64) (hq : q ≠ c) : sd_cel G (sd_wd h c k v) q = sd_cel G h q := sd_cel_ext G (fun _ => rfl) (fun j => by show (if q = c ∧ j = k then v else h.2.2.1 q j) = _; rw [if_neg (fun z => hq z.1)]) (fun _ => rfl)
theorem sd_wr_ne (G : sd_GX) (h : sd_HX) {c k q : Nat} (v : Option Nat) (hq : q ≠ c) : sd_cel G (sd_wr h c k v) q = sd_cel G h q := sd_cel_ext G (fun _ => rfl) (fun _ => rfl) (fun j => by show (if q = c ∧ j = k then v else h.2.2.2 q j) = _; rw [if_neg (fun z => hq z.1)])
theorem sd_wi_set (G : sd_GX) {h : sd_HX} {ci c k : Nat} {v : Int32} (hci : ci < 13) (hs : sd_SH c = (ci, (sd_C ci).2.2)) (hc : c < h.1) (hf : ¬ sd_FT ci k = 2) : (sd_W G h).set c (G.1 + c, .inr (ci, ((List.range (sd_C ci).2.2).map (fun j => sd_fv G.1 h ci c j)).set k (.int v))) = sd_W G (sd_wi h c k v) := by
  refine sd_W_set G (g := sd_wi h c k v) rfl hc ?_ (fun q _ hq => sd_wi_ne G h v hq)
  rw [sd_cel_o G _ hs (by omega)]
  refine congrArg (fun l => (.inr (ci, l) : va_E)) (sd_set_map _ _ _ _ _ ?_ ?_).symm
  · show sd_fv G.1 (sd_wi h c k v) ci c k = _
    unfold sd_fv
    rw [if_neg hf]
    show Value.int (if c = c ∧ k = k then v else _) = _
    rw [if_pos ⟨rfl, rfl⟩]
  · intro j hj
    unfold sd_fv
    show (if sd_FT ci j = 2 then _ else Value.int (if c = c ∧ j = k then v else h.2.1 c j)) = _
    rw [if_neg (show ¬ (c = c ∧ j = k) from fun z => hj z.2)]
theorem sd_wr_set (G : sd_GX) {h : sd_HX} {ci c k : Nat} {v : Option Nat} (hci : ci < 13) (hs : sd_SH c = (ci, (sd_C ci).2.2)) (hc : c < h.1) (hf : sd_FT ci k = 2) : (sd_W G h).set c (G.1 + c, .inr (ci, ((List.range (sd_C ci).2.2).map (fun j => sd_fv G.1 h ci c j)).set k (va_rf (v.map (fun a => G.1 + a))))) = sd_W G (sd_wr h c k v) := by
  refine sd_W_set G (g := sd_wr h c k v) rfl hc ?_ (fun q _ hq => sd_wr_ne G h v hq)
  rw [sd_cel_o G _ hs (by omega)]
  refine congrArg (fun l => (.inr (ci, l) : va_E)) (sd_set_map _ _ _ _ _ ?_ ?_).symm
  · show sd_fv G.1 (sd_wr h c k v) ci c k = _
    unfold sd_fv
    rw [if_pos hf]
    show va_rf ((if c = c ∧ k = k then v else _).map _) = _
    rw [if_pos ⟨rfl, rfl⟩]
  · intro j hj
    unfold sd_fv
    show (if sd_FT ci j = 2 then va_rf ((if c = c ∧ j = k then v else h.2.2.2 c j).map _) else _) = _
    rw [if_neg (show ¬ (c = c ∧ j = k) from fun z => hj z.2)]
def sd_inB (i : Int32) (n : Nat) : Bool := decide (¬ i < 0) && decide (i.toNatClampNeg < n)
theorem sd_in_of {i : Int32} {n : Nat} (h : sd_inB i n = true) : vp_in i n := by
  unfold sd_inB at h
  rw [Bool.and_eq_true, decide_eq_true_eq, decide_eq_true_eq] at h
  rintro (q | q)
  · exact h.1 q
  · omega
theorem sd_at_arr (G : sd_GX) {h : sd_HX} {c t n : Nat} (hs : sd_SH c = (t, n)) (ht : ¬ t < 100) (hc : c < h.1) : (sd_W G h)[c]? = some (G.1 + c, .inl (G.2.2.2.1 t, n, sd_arr G.1 h t c)) := by
  rw [sd_W_at G hc, sd_cel_a G h hs ht]
theorem sd_iald {c n : Nat} {i : Int32} (d : sd_d M pc .iaload 1 pc') (hs : sd_SH c = (100, n)) (hc : c < h.1) (hin : sd_inB i n = true) (kk : sd_J G X Q M pc' lo (.int (h.2.1 c i.toNatClampNeg) :: st) h) : sd_J G X Q M pc lo (.int i :: .ref (G.1 + c) :: st) h := fun hB H locs ls hH hS hl hf => by
  obtain ⟨d, rfl⟩ := d
  exact va_iald hB.1 hB.2.1 hB.2.2.2.2.2.2.2.2.2.1 hH.1 c 0 (sd_at_arr G hs (by decide) hc) rfl (sd_in_of hin) d (kk hB H locs ls hH hS hl hf)
theorem sd_dald {c n : Nat} {i : Int32} (d : sd_d M pc .daload 1 pc') (hs : sd_SH c = (101, n)) (hc : c < h.1) (hin : sd_inB i n = true) (kk : sd_J G X Q M pc' lo (.double (h.2.2.1 c i.toNatClampNeg) :: st) h) : sd_J G X Q M pc lo (.int i :: .ref (G.1 + c) :: st) h := fun hB H locs ls hH hS hl hf => by
  obtain ⟨d, rfl⟩ := d
  exact va_dald hB.1 hB.2.1 hB.2.2.2.2.2.2.2.2.2.1 hH.1 c 1 (sd_at_arr G hs (by decide) hc) rfl (sd_in_of hin) d (kk hB H locs ls hH hS hl hf)
theorem sd_zald {c n : Nat} {i : Int32} (d : sd_d M pc .baload 1 pc') (hs : sd_SH c = (102, n)) (hc : c < h.1) (hin : sd_inB i n = true) (kk : sd_J G X Q M pc' lo (.int (h.2.1 c i.toNatClampNeg) :: st) h) : sd_J G X Q M pc lo (.int i :: .ref (G.1 + c) :: st) h := fun hB H locs ls hH hS hl hf => by
  obtain ⟨d, rfl⟩ := d
  exact va_zald hB.1 hB.2.1 hB.2.2.2.2.2.2.2.2.2.1 hH.1 c 2 (sd_at_arr G hs (by decide) hc) rfl (sd_in_of hin) d (kk hB H locs ls hH hS hl hf)
def sd_cn (t : Nat) : String := if t = 103 then RX8 else if t = 104 then RX9 else RX5
theorem sd_aald {c n t r : Nat} {i : Int32} (d : sd_d M pc .aaload 1 pc') (hs : sd_SH c = (t, n)) (ht : t = 103 ∨ t = 104 ∨ t = 105) (hc : c < h.1) (hin : sd_inB i n = true) (hr : h.2.2.2 c i.toNatClampNeg = some r) (kk : sd_J G X Q M pc' lo (.ref (G.1 + r) :: st) h) : sd_J G X Q M pc lo (.int i :: .ref (G.1 + c) :: st) h := fun hB H locs ls hH hS hl hf => by
  obtain ⟨d, rfl⟩ := d
  have k2 := kk hB H locs ls hH hS hl hf
  have e : (Value.ref (G.1 + r)) = va_rf ((fun j => (h.2.2.2 c j).map (fun a => G.1 + a)) i.toNatClampNeg) := by
    show _ = va_rf ((h.2.2.2 c i.toNatClampNeg).map _)
    rw [hr]
    rfl
  rw [e] at k2
  rcases ht with rfl | rfl | rfl
  · exact va_aldq hB.1 hB.2.1 hB.2.2.2.2.2.2.2.2.2.1 hH.1 c 3 (C := RX8) (sd_at_arr G hs (by decide) hc) rfl (sd_in_of hin) d k2
  · exact va_aldq hB.1 hB.2.1 hB.2.2.2.2.2.2.2.2.2.1 hH.1 c 4 (C := RX9) (sd_at_arr G hs (by decide) hc) rfl (sd_in_of hin) d k2
  · exact va_aldq hB.1 hB.2.1 hB.2.2.2.2.2.2.2.2.2.1 hH.1 c 5 (C := RX5) (sd_at_arr G hs (by decide) hc) rfl (sd_in_of hin) d k2
theorem sd_st_key {c : Nat} {g : sd_HX} {pc1 : Nat} {a : va_E} {j : Nat} (hB : sd_BD G X M) {H : Heap} {locs : List Loc} {ls : Array Slot} (hH : sd_HR G h H) (hS : va_S (sd_A G) (sd_s X).heap H locs) (hl : lv_has ls M.2.2.1 lo) (hf : sd_fit G X h) (hc : c < h.1) (hg : h.1 = g.1) (hset : (sd_W G h).set c (G.1 + c, a) = sd_W G g) (kk : sd_J G X Q M pc1 lo st g)
    (H1 : Heap) (ha : va_at (sd_dD G) sd_cls (G.1 + c, a) H1) (z : H1.size = H.size) (oq : ∀ q, q ≠ G.1 + c → H1[q]? = H[q]?) :
    W X.1 X.2.1 X.2.2.1 X.2.2.2.1 (sd_s X) X.2.2.2.2.2.1 X.2.2.2.2.2.2.1 X.2.2.2.2.2.2.2.1 X.2.2.2.2.2.2.2.2.1 X.2.2.2.2.2.2.2.2.2 H1 (locs ++ [⟨G.1 + c, j⟩]) (sd_kc G X h) (sd_ks G X h) Q (F0 X.2.2.2.2.2.1 pc1 ls st) := by
  have hP := hH.1.set (sd_W_D G h) (sd_W_at G hc) ha oq
  rw [hset] at hP
  have h2 := kk hB H1 _ ls (hH.to hg z hP) (hS.put (k := j) z oq (show G.1 ≤ G.1 + c by omega)) hl (by unfold sd_fit sd_kc sd_ks at hf ⊢; rw [← hg]; exact hf)
  unfold sd_kc sd_ks at h2 ⊢
  rw [hg]
  exact h2
theorem sd_iast {c n : Nat} {i v : Int32} (d : sd_d M pc .iastore 1 pc') (hs : sd_SH c = (100, n)) (hc : c < h.1) (hin : sd_inB i n = true) (kk : sd_J G X Q M pc' lo st (sd_wi h c i.toNatClampNeg v)) : sd_J G X Q M pc lo (.int v :: .int i :: .ref (G.1 + c) :: st) h := fun hB H locs ls hH hS hl hf => by
  obtain ⟨d, rfl⟩ := d
  have ha := sd_at_arr G hs (by decide) hc
  refine W.iast hB.1 hB.2.1 (hH.1 c _ ha) ((hB.2.2.2.2.2.2.2.2.2.1.2 0 _ rfl).1 n (fun j => .int (h.2.1 c j))) (fun q => by cases q) (by show ¬ (i < 0 ∨ (arrV _ _ _).slots.size ≤ _); rw [arrV_size]; exact sd_in_of hin) rfl rfl d fun H1 e z oq => ?_
  refine sd_st_key (g := sd_wi h c i.toNatClampNeg v) (a := .inl (G.2.2.2.1 100, n, .inl ((sd_wi h c i.toNatClampNeg v).2.1 c))) hB hH hS hl hf hc rfl (sd_W_set G rfl hc (sd_cel_a G _ hs (by decide)) (fun q _ hq => sd_wi_ne G h v hq)) kk H1 ?_ z oq
  show H1[G.1 + c]? = some (vp_cell _ _)
  rw [e]
  rw [vp_cell_i]
  show some ((vp_cell (G.2.2.2.1 100) (n, .inl (h.2.1 c))).setSlot _ _) = _
  rw [vp_cell_i, arrV_store]
  congr 2
  funext q
  by_cases hq : q = i.toNatClampNeg
  · subst hq
    simp [updV]
  · simp [updV, hq]
theorem sd_dast {c n : Nat} {i : Int32} {v : UInt64} (d : sd_d M pc .dastore 1 pc') (hs : sd_SH c = (101, n)) (hc : c < h.1) (hin : sd_inB i n = true) (kk : sd_J G X Q M pc' lo st (sd_wd h c i.toNatClampNeg v)) : sd_J G X Q M pc lo (.double v :: .int i :: .ref (G.1 + c) :: st) h := fun hB H locs ls hH hS hl hf => by
  obtain ⟨d, rfl⟩ := d
  have ha := sd_at_arr G hs (by decide) hc
  refine W.dast hB.1 hB.2.1 (hH.1 c _ ha) ((hB.2.2.2.2.2.2.2.2.2.1.2 1 _ rfl).1 n (fun j => .double (h.2.2.1 c j))) (fun q => by cases q) (by show ¬ (i < 0 ∨ (arrV _ _ _).slots.size ≤ _); rw [arrV_size]; exact sd_in_of hin) rfl rfl d fun H1 e z oq => ?_
  refine sd_st_key (g := sd_wd h c i.toNatClampNeg v) (a := .inl (G.2.2.2.1 101, n, .inr (.inr (.inr (.inl ((sd_wd h c i.toNatClampNeg v).2.2.1 c)))))) hB hH hS hl hf hc rfl (sd_W_set G rfl hc (sd_cel_a G _ hs (by decide)) (fun q _ hq => sd_wd_ne G h v hq)) kk H1 ?_ z oq
  show H1[G.1 + c]? = some (vp_cell _ _)
  rw [e]
  rw [vp_cell_d]
  show some ((vp_cell (G.2.2.2.1 101) (n, .inr (.inr (.inr (.inl (h.2.2.1 c)))))).setSlot _ _) = _
  rw [vp_cell_d, arrV_store]
  congr 2
  funext q
  by_cases hq : q = i.toNatClampNeg
  · subst hq
    simp [updV]
  · simp [updV, hq]
def sd_isB (v : Int32) : Bool := v == 0 || v == 1
theorem sd_isB_nar {v : Int32} (h : sd_isB v = true) : narrow .boolean (.int v) = .int v ∧ fits .boolean (.int v) = true := by
  unfold sd_isB at h
  rw [Bool.or_eq_true, beq_iff_eq, beq_iff_eq] at h
  rcases h with rfl | rfl <;> exact ⟨by decide, by decide⟩
theorem sd_zast {c n : Nat} {i v : Int32} (d : sd_d M pc .bastore 1 pc') (hs : sd_SH c = (102, n)) (hc : c < h.1) (hin : sd_inB i n = true) (hv : sd_isB v = true) (kk : sd_J G X Q M pc' lo st (sd_wi h c i.toNatClampNeg v)) : sd_J G X Q M pc lo (.int v :: .int i :: .ref (G.1 + c) :: st) h := fun hB H locs ls hH hS hl hf => by
  obtain ⟨d, rfl⟩ := d
  have ha := sd_at_arr G hs (by decide) hc
  refine W.zast hB.1 hB.2.1 (hH.1 c _ ha) ((hB.2.2.2.2.2.2.2.2.2.1.2 2 _ rfl).1 n (fun j => .int (h.2.1 c j))) (fun q => by cases q) (by show ¬ (i < 0 ∨ (arrV _ _ _).slots.size ≤ _); rw [arrV_size]; exact sd_in_of hin) rfl rfl d fun H1 e z oq => ?_
  rw [(sd_isB_nar hv).1] at e
  refine sd_st_key (g := sd_wi h c i.toNatClampNeg v) (a := .inl (G.2.2.2.1 102, n, .inl ((sd_wi h c i.toNatClampNeg v).2.1 c))) hB hH hS hl hf hc rfl (sd_W_set G rfl hc (sd_cel_a G _ hs (by decide)) (fun q _ hq => sd_wi_ne G h v hq)) kk H1 ?_ z oq
  show H1[G.1 + c]? = some (vp_cell _ _)
  rw [e]
  rw [vp_cell_i]
  show some ((vp_cell (G.2.2.2.1 102) (n, .inl (h.2.1 c))).setSlot _ _) = _
  rw [vp_cell_i, arrV_store]
  congr 2
  funext q
  by_cases hq : q = i.toNatClampNeg
  · subst hq
    simp [updV]
  · simp [updV, hq]
end SF

/-! ===== behind the constructors: the whole heap; h: ints, doubles, the two references that change (Runner.rows, Runner.outcome) ===== -/
abbrev sd_H : Type := (Nat → Nat → Int32) × (Nat → Nat → UInt64) × (Nat → Option Nat)
def sd_rtl : List (List Nat) := [[2, 7, 34, 56, 57, 64, 98, 99, 100, 101, 108, 111, 116, 121, 124], [3, 4, 5, 6], [], [], [], [], [8], [9, 14, 19, 24, 29], [10], [11, 12, 13], [], [], [], [15], [16, 17, 18], [], [], [], [20], [21, 22, 23], [], [], [], [25], [26, 27, 28], [], [], [], [30], [31, 32, 33], [], [], [], [35], [36, 37, 38, 39, 40, 41, 42, 43, 44, 45, 46, 47, 48, 49, 50, 51, 52, 53, 54, 55], [], [], [], [], [], [], [], [], [], [], [], [], [], [], [], [], [], [], [], [], [], [2, 7, 58, 63], [59, 60, 61, 62], [], [], [], [], [], [65, 66, 67], [68, 69, 70, 71, 72, 73, 74, 75, 76, 77, 78, 79, 80, 81, 82, 83, 84, 85, 86, 87, 88, 89, 90, 91, 92, 93, 94, 95, 96, 97], [], [], [], [], [], [], [], [], [], [], [], [], [], [], [], [], [], [], [], [], [], [], [], [], [], [], [], [], [], [], [], [], [], [], [], [7, 102, 103, 104, 105, 106, 107], [], [], [], [], [], [], [109, 110], [], [], [112, 113, 114, 115], [], [], [], [], [117, 118, 119, 120], [], [], [], [], [122, 123], [], [], [125, 126], [], [], [128, 129, 130, 131, 0, 132, 0, 0, 133, 134, 135, 136, 137, 138, 139, 140, 141, 142, 0, 143, 0, 144, 0, 145, 146, 0, 0, 0, 0, 147, 148, 149, 150, 0, 0, 151, 152, 0, 0, 0, 153, 154, 155, 156, 157, 158, 159], [], [], [], [], [], [], [], [], [], [], [], [], [], [], [], [], [], [], [], [], [], [], [], [], [], [], [], [], [], [], [], []]
def sd_RT (c k : Nat) : Option Nat := match (sd_rtl.getD c []).getD k 0 with
  | 0 => none
  | n + 1 => some n
def sd_F (h : sd_H) : sd_HX := (sd_NT, h.1, h.2.1, fun c k => if c = 100 ∧ k = 7 then h.2.2 0 else if c = 100 ∧ k = 8 then h.2.2 1 else sd_RT c k)
def wI (h : sd_H) (c k : Nat) (v : Int32) : sd_H := (fun c' k' => if c' = c ∧ k' = k then v else h.1 c' k', h.2)
def wD (h : sd_H) (c k : Nat) (v : UInt64) : sd_H := (h.1, fun c' k' => if c' = c ∧ k' = k then v else h.2.1 c' k', h.2.2)
def wP (h : sd_H) (i : Nat) (v : Option Nat) : sd_H := (h.1, h.2.1, fun j => if j = i then v else h.2.2 j)
theorem sd_F_wP0 (h : sd_H) (v : Option Nat) : sd_wr (sd_F h) 100 7 v = sd_F (wP h 0 v) := by
  unfold sd_wr sd_F wP
  refine Prod.ext rfl (Prod.ext rfl (Prod.ext rfl (funext fun c => funext fun k => ?_)))
  show (if c = 100 ∧ k = 7 then v else if c = 100 ∧ k = 7 then h.2.2 0 else if c = 100 ∧ k = 8 then h.2.2 1 else sd_RT c k) = (if c = 100 ∧ k = 7 then (if 0 = 0 then v else h.2.2 0) else if c = 100 ∧ k = 8 then (if 1 = 0 then v else h.2.2 1) else sd_RT c k)
  by_cases q : c = 100 ∧ k = 7
  · simp [q]
  · simp [q]
theorem sd_F_wP1 (h : sd_H) (v : Option Nat) : sd_wr (sd_F h) 100 8 v = sd_F (wP h 1 v) := by
  unfold sd_wr sd_F wP
  refine Prod.ext rfl (Prod.ext rfl (Prod.ext rfl (funext fun c => funext fun k => ?_)))
  show (if c = 100 ∧ k = 8 then v else if c = 100 ∧ k = 7 then h.2.2 0 else if c = 100 ∧ k = 8 then h.2.2 1 else sd_RT c k) = (if c = 100 ∧ k = 7 then (if 0 = 1 then v else h.2.2 0) else if c = 100 ∧ k = 8 then (if 1 = 1 then v else h.2.2 1) else sd_RT c k)
  by_cases q : c = 100 ∧ k = 7
  · obtain ⟨rfl, rfl⟩ := q
    simp
  · by_cases q2 : c = 100 ∧ k = 8
    · simp [q, q2]
    · simp [q, q2]


def sd_WL (G : sd_GX) (h : sd_HX) (U : State) : Prop := sd_HR G h U.heap ∧ sd_K G U ∧ sd_ST G U U.heap
def sd_QC (G : sd_GX) (o : Option Value × sd_HX) : Array Value → State → Outcome → State → Prop := fun _ st oc t => oc = .returned o.1 ∧ sd_WL G o.2 t ∧ va_F (sd_A G) st t
abbrev sd_QR (G : sd_GX) (X : sd_CX) (M : sd_MX) (o : Option Value × sd_HX) : State → Prop := MQ X.2.2.2.2.2.2.2.1 (sd_QC G o) X.2.2.2.2.2.2.1 (sd_s X) M.2.2.2.2.cells M.2.2.2.2.slots (sd_A G)
def sd_ws (M : sd_MX) : List Cond := .code M.1 M.2.1 M.2.2.1 M.2.2.2.1 :: sd_tb
def sd_Run (G : sd_GX) (M : sd_MX) (av : List Value) (h : sd_HX) (o : Option Value × sd_HX) : Prop :=
  (o.2.1 = h.1 + M.2.2.2.2.cells ∧ sd_SZ o.2.1 = sd_SZ h.1 + M.2.2.2.2.slots) ∧ ∀ l : Launch, Met l M.1 (sd_ws M) M.2.2.2.2 (va_Pc av (fun U => sd_WL G h U)) (sd_QC G o) M.2.2.2.2.cells M.2.2.2.2.slots (sd_A G)
theorem sd_good : ∀ w ∈ sd_tb, (w.onTables && w.keeps) = true ∨ ∃ ty, w = .arrayClass ty := fun w hw => good_of_word (List.mem_filter.mp hw).2
theorem sd_SZ_mono {a b : Nat} (h : a ≤ b) : sd_SZ a ≤ sd_SZ b := by
  induction b with
  | zero => rw [Nat.le_zero.mp h]; exact Nat.le_refl _
  | succ b ih =>
    rcases Nat.lt_or_ge a (b + 1) with q | q
    · refine Nat.le_trans (ih (by omega)) ?_
      unfold sd_SZ
      rw [List.take_succ, List.map_append, List.sum_append]
      omega
    · rw [Nat.le_antisymm h q]; exact Nat.le_refl _
section SC
variable {G : sd_GX} {X : sd_CX} {Q : State → Prop} {M M' : sd_MX} {pc pc' tgt : Nat} {lo lo' : List (Nat × Value)} {st st0 : List Value} {h : sd_HX} {o : Option Value × sd_HX}
/-- what a call stands on: the callee's words -/
abbrev sd_mok (M' : sd_MX) (n : Nat) : Prop := Cond.code M'.1 M'.2.1 M'.2.2.1 M'.2.2.2.1 ∈ sd_tb ∧ Cond.initialized M'.1.cls ∈ sd_tb ∧ M'.1.cls ≠ "java/lang/invoke/MethodHandle" ∧ M'.1.cls ≠ "java/lang/invoke/VarHandle" ∧ (parseMethodDescriptor M'.1.desc).map (fun d => d.parameters.length) = some n
abbrev sd_mV (M' : sd_MX) (n : Nat) : Prop := Cond.instanceMethod M'.1 ∈ sd_tb ∧ Cond.selects M'.1.cls M'.1 M'.1 ∈ sd_tb ∧ sd_mok M' n
abbrev sd_mS (M' : sd_MX) (n : Nat) : Prop := Cond.static M'.1 ∈ sd_tb ∧ sd_mok M' n
abbrev sd_mI (M' : sd_MX) (n : Nat) : Prop := Cond.instanceMethod M'.1 ∈ sd_tb ∧ M'.1.name = "<init>" ∧ M'.2.2.2.1 = none ∧ sd_mok M' n
abbrev sd_rm (M M' : sd_MX) : Prop := M'.2.2.2.2.frames + 1 ≤ M.2.2.2.2.frames ∧ 8 + (M'.2.2.1 + 11) + M'.2.2.2.2.locals ≤ M.2.2.2.2.locals
theorem sd_kadd (hB : sd_BD G X M) {H : Heap} {locs : List Loc} (hH : sd_HR G h H) (hS : va_S (sd_A G) (sd_s X).heap H locs) {h1 : sd_HX} {mc ms : Nat} (e : h1.1 = h.1 + mc ∧ sd_SZ h1.1 = sd_SZ h.1 + ms) : sd_kc G X h1 = sd_kc G X h + mc ∧ sd_ks G X h1 = sd_ks G X h + ms := by
  have a1 := hS.1
  have a2 := hH.2.1
  have a3 := hB.2.2.2.2.2.2.2.2.2.2.1
  have a4 : sd_SZ ((sd_s X).heap.size - G.1) ≤ sd_SZ h.1 := sd_SZ_mono (by omega)
  unfold sd_kc sd_ks
  omega
theorem sd_call {av : List Value} (hR : sd_Run G M' av h o)
    (hrun : sd_BD G X M → ∀ (H : Heap) (locs : List Loc) (ls : Array Slot), sd_HR G h H → va_S (sd_A G) (sd_s X).heap H locs → lv_has ls M.2.2.1 lo → (sd_kc G X h + M'.2.2.2.2.cells ≤ X.2.2.2.1.cells ∧ sd_ks G X h + M'.2.2.2.2.slots ≤ X.2.2.2.1.slots) →
      va_Run X.1 X.2.1 X.2.2.1 X.2.2.2.1 (sd_s X) X.2.2.2.2.2.1 X.2.2.2.2.2.2.1 X.2.2.2.2.2.2.2.1 X.2.2.2.2.2.2.2.2.1 X.2.2.2.2.2.2.2.2.2 H locs (sd_kc G X h) (sd_ks G X h) M'.2.2.2.2.cells M'.2.2.2.2.slots (F0 X.2.2.2.2.2.1 pc ls st0) st (sd_QC G o av.toArray) (sd_A G))
    (hfit : sd_fit G X h → sd_fit G X o.2) (kk : sd_J G X Q M (pc + 3) lo (o.1.toList ++ st) o.2) : sd_J G X Q M pc lo st0 h := by
  intro hB H locs ls hH hS hl hf T hT X'
  obtain ⟨e1, e2⟩ := sd_kadd hB hH hS hR.1
  have hf2 := hfit hf
  obtain ⟨v, st₀, t, T', L, h0, X2, hL, f1, f2, ⟨hv, hW, hF⟩, stp⟩ := hrun hB H locs ls hH hS hl (by unfold sd_fit at hf2; rw [← e1, ← e2]; exact hf2) T hT X'
  cases hv
  rw [← e1, ← e2] at X2
  rw [va_F, h0] at hF
  obtain ⟨t2, a1, b1⟩ := kk hB T'.heap (locs ++ L) ls (by rw [f1]; exact hW.1) ⟨by rw [f1]; exact Nat.le_trans hS.1 hF.1, fun q h1 h2 => by rw [f1, hF.2 q (Nat.lt_of_lt_of_le h1 hS.1) h2]; exact hS.2.1 q h1 h2, fun q hq => (List.mem_append.mp hq).elim (hS.2.2 q) (hL q)⟩ hl hf2 T' rfl X2
  exact ⟨t2, stp t2 a1, b1⟩
theorem sd_pre (hB : sd_BD G X M) {H : Heap} {locs : List Loc} (hH : sd_HR G h H) (hS : va_S (sd_A G) (sd_s X).heap H locs) (av : List Value) : PreS (sd_s X) H (va_Pc av (fun U => sd_WL G h U)) av := by
  refine ⟨fun a U g mk q => ?_, fun U hU hW => ⟨rfl, by rw [hU]; exact hH, va_K.moved hW.alike hB.2.2.2.2.2.2.2.2.2.1, hB.2.2.2.2.2.2.2.2.2.2.2.step hW (by rw [hU]; exact hS.2.1)⟩⟩
  obtain ⟨q1, q2, q3, q4⟩ := q
  exact ⟨q1, q2, va_K.moved (u := U) (U := U.calling g mk a) (Vm.Alike.refl U.vm) q3, q4.step (State.WarmedH.refl U) (fun _ _ _ => rfl)⟩
theorem sd_fix (hB : sd_BD G X M) : CallFix X.1 X.2.2.2.2.2.1 X.2.2.2.2.2.2.2.2.2 M.2.1 M.2.2.1 (sd_s X) X.2.2.2.2.2.2.1 sd_tb M.1.cls := ⟨hB.1, hB.2.1, hB.2.2.2.1, hB.2.2.2.2.1, hB.2.2.2.2.2.1⟩
theorem sd_gws {n : Nat} (hm : sd_mok M' n) {pre : List Cond} (hp : ∀ w ∈ pre, w ∈ sd_tb) : GoodIn sd_tb (pre ++ sd_ws M') := by
  intro w hw
  have hm : w ∈ sd_tb := by
    rcases List.mem_append.mp hw with q | q
    · exact hp w q
    · rcases List.mem_cons.mp q with rfl | q
      · exact hm.1
      · exact q
  exact ⟨hm, sd_good w hm⟩
theorem sd_callV {idx b : Nat} {As : List Value} {ci : Nat} (n : Nat) (hR : sd_Run G M' (.ref (G.1 + b) :: As) h o) (d : decode M.2.1 pc = .ok (.invokevirtual idx, 3)) (hm : sd_mV M' n) (hlk : Cond.methodLink M.1.cls idx M'.1 ∈ sd_tb) (hrm : sd_rm M M') (hn : As.length = n) (hst : st0 = As.reverse ++ .ref (G.1 + b) :: st) (hw : (st.map fun v => v.category).sum ≤ 8)
    (hs : sd_SH b = (ci, (sd_C ci).2.2)) (hci : ci < 13) (hcc : (sd_C ci).1 = M'.1.cls) (hb : b < h.1) (hfit : sd_fit G X h → sd_fit G X o.2) (hp : pc + 3 = pc') (kk : sd_J G X Q M pc' lo (o.1.toList ++ st) o.2) : sd_J G X Q M pc lo st0 h := by
  subst hp
  refine sd_call hR (fun hB H locs ls hH hS hl hc => ?_) hfit kk
  have hpre := sd_pre hB hH hS (.ref (G.1 + b) :: As)
  have he := sd_W_at G hb
  rw [sd_cel_o G h hs (by omega)] at he
  have hrec := va_recv hB.2.2.2.2.2.2.2.2.2.1 hH.1 (sd_clsAt hci) he
  rw [hcc] at hrec
  rw [hst]
  exact va_runV (sd_fix hB) (hR.2 X.2.1) (cwV n hB.2.2.2.2.2.1 (C := M'.1.cls) (index := idx) (own := M.1.cls) (sd_gws hm.2.2 (fun w hw => by
    simp only [List.mem_cons, List.not_mem_nil, or_false] at hw
    rcases hw with rfl | rfl | rfl | rfl
    · exact hlk
    · exact hm.1
    · exact hm.2.1
    · exact hm.2.2.2.1)) rfl rfl rfl ⟨rfl, hm.2.2.2.2⟩ (by rw [hB.2.2.2.2.2.2.2.2.1]; exact hrm)) ⟨hpre.1, hrec, hpre.2⟩ rfl hn hl.1 rfl (lv_room hw) d hc
theorem sd_callS {idx : Nat} {As : List Value} (n : Nat) (hR : sd_Run G M' As h o) (d : decode M.2.1 pc = .ok (.invokestatic idx, 3)) (hm : sd_mS M' n) (hlk : Cond.methodLink M.1.cls idx M'.1 ∈ sd_tb) (hrm : sd_rm M M') (hn : As.length = n) (hst : st0 = As.reverse ++ st) (hw : (st.map fun v => v.category).sum ≤ 8)
    (hfit : sd_fit G X h → sd_fit G X o.2) (hp : pc + 3 = pc') (kk : sd_J G X Q M pc' lo (o.1.toList ++ st) o.2) : sd_J G X Q M pc lo st0 h := by
  subst hp
  refine sd_call hR (fun hB H locs ls hH hS hl hc => ?_) hfit kk
  rw [hst]
  exact va_runS (sd_fix hB) (hR.2 X.2.1) (va_cwS n hB.2.2.2.2.2.1 (index := idx) (own := M.1.cls) (sd_gws hm.2 (fun w hw => by
    simp only [List.mem_cons, List.not_mem_nil, or_false] at hw
    rcases hw with rfl | rfl | rfl
    · exact hlk
    · exact hm.1
    · exact hm.2.2.1)) rfl rfl rfl hm.2.2.2 (by rw [hB.2.2.2.2.2.2.2.2.1]; exact hrm)) (sd_pre hB hH hS As) rfl hn hl.1 rfl (lv_room hw) d hc
theorem sd_callSN {idx : Nat} {As : List Value} {host : String} (n : Nat) (hR : sd_Run G M' As h o) (d : decode M.2.1 pc = .ok (.invokestatic idx, 3)) (hm : sd_mS M' n) (hlk : Cond.methodLinkNest M.1.cls idx M'.1 host ∈ lw_tbl) (hrm : sd_rm M M') (hn : As.length = n) (hst : st0 = As.reverse ++ st) (hw : (st.map fun v => v.category).sum ≤ 8)
    (hfit : sd_fit G X h → sd_fit G X o.2) (hp : pc + 3 = pc') (kk : sd_J G X Q M pc' lo (o.1.toList ++ st) o.2) : sd_J G X Q M pc lo st0 h := by
  subst hp
  refine sd_call hR (fun hB H locs ls hH hS hl hc => ?_) hfit kk
  rw [hst]
  have hts := hB.2.2.2.2.2.1
  exact va_runSN (sd_fix hB) (hR.2 X.2.1) ⟨va_cnB n hts (sd_gws (pre := []) hm.2 (fun w hw => absurd hw List.not_mem_nil)) rfl rfl rfl (hB.2.2.2.2.2.2.2.2.2.2.2.2.2.2.2 _ hlk rfl) (hts _ hm.2.2.1) hm.2.2.2 (by rw [hB.2.2.2.2.2.2.2.2.1]; exact hrm), hts _ hm.1, trivial⟩ (sd_pre hB hH hS As) rfl hn hl.1 rfl (lv_room hw) d hc
/-- the end of a method's own walk: what it made is what its room says -/
def sd_end (G : sd_GX) (X : sd_CX) (M : sd_MX) (h : sd_HX) : Prop := sd_kc G X h = M.2.2.2.2.cells ∧ sd_ks G X h = M.2.2.2.2.slots
theorem sd_fin (hB : sd_BD G X M) {H : Heap} {locs : List Loc} (hH : sd_HR G h H) (hS : va_S (sd_A G) (sd_s X).heap H locs) (v : Option Value) : ∀ t : State, t.heap = H → (sd_s X).WarmedH t.vm → sd_QC G (v, h) X.2.2.2.2.2.2.1 (sd_s X) (.returned v) t := fun t ht hW =>
  ⟨rfl, ⟨by rw [ht]; exact hH, va_K.moved hW.alike hB.2.2.2.2.2.2.2.2.2.1, hB.2.2.2.2.2.2.2.2.2.2.2.step hW (by rw [ht]; exact hS.2.1)⟩, hS.F ht⟩
theorem sd_iret {v : Int32} (d : decode M.2.1 pc = .ok (.ireturn, 1)) (hr : M.2.2.2.1 = some .int) (he : sd_end G X M h) : sd_J G X (sd_QR G X M (some (.int v), h)) M pc lo [.int v] h := fun hB H locs ls hH hS hl hf => by
  rw [he.1, he.2]
  exact W.iret hB.1 hB.2.1 (by rw [hB.2.2.1, hr]) (sd_fin hB hH hS _) hS.2.2 d hB.2.2.2.2.2.2.1
theorem sd_zret {v : Int32} (d : decode M.2.1 pc = .ok (.ireturn, 1)) (hr : M.2.2.2.1 = some .boolean) (hv : sd_isB v = true) (he : sd_end G X M h) : sd_J G X (sd_QR G X M (some (.int v), h)) M pc lo [.int v] h := fun hB H locs ls hH hS hl hf => by
  rw [he.1, he.2]
  exact W.zret hB.1 hB.2.1 (ty := .boolean) (by rw [hB.2.2.1, hr]) (sd_isB_nar hv).1 (sd_fin hB hH hS _) hS.2.2 d hB.2.2.2.2.2.2.1
theorem sd_lret {v : Int64} (d : decode M.2.1 pc = .ok (.lreturn, 1)) (hr : M.2.2.2.1 = some .long) (he : sd_end G X M h) : sd_J G X (sd_QR G X M (some (.long v), h)) M pc lo [.long v] h := fun hB H locs ls hH hS hl hf => by
  rw [he.1, he.2]
  exact W.lret hB.1 hB.2.1 (by rw [hB.2.2.1, hr]) (sd_fin hB hH hS _) hS.2.2 d hB.2.2.2.2.2.2.1
theorem sd_dret {v : UInt64} (d : decode M.2.1 pc = .ok (.dreturn, 1)) (hr : M.2.2.2.1 = some .double) (he : sd_end G X M h) : sd_J G X (sd_QR G X M (some (.double v), h)) M pc lo [.double v] h := fun hB H locs ls hH hS hl hf => by
  have hlk := hB.2.2.2.2.2.2.1
  rw [he.1, he.2]
  exact W.dret hB.1 hB.2.1 (by rw [hB.2.2.1, hr]) (sd_fin hB hH hS _) hS.2.2 d hlk
theorem sd_fret {v : UInt32} (d : decode M.2.1 pc = .ok (.freturn, 1)) (hr : M.2.2.2.1 = some .float) (he : sd_end G X M h) : sd_J G X (sd_QR G X M (some (.float v), h)) M pc lo [.float v] h := fun hB H locs ls hH hS hl hf => by
  have hlk := hB.2.2.2.2.2.2.1
  rw [he.1, he.2]
  exact W.fret hB.1 hB.2.1 (by rw [hB.2.2.1, hr]) (sd_fin hB hH hS _) hS.2.2 d hlk
theorem sd_aret {v : Nat} {rt : FieldType} (d : decode M.2.1 pc = .ok (.areturn, 1)) (hr : M.2.2.2.1 = some rt) (hrt : (∃ n, rt = .object n) ∨ ∃ t, rt = .array t) (he : sd_end G X M h) : sd_J G X (sd_QR G X M (some (.ref v), h)) M pc lo [.ref v] h := fun hB H locs ls hH hS hl hf => by
  rw [he.1, he.2]
  exact W.aret hB.1 hB.2.1 (by rw [hB.2.2.1, hr]) hrt (Or.inr ⟨v, rfl⟩) (sd_fin hB hH hS _) hS.2.2 d hB.2.2.2.2.2.2.1
theorem sd_vret (d : decode M.2.1 pc = .ok (.return_, 1)) (hr : M.2.2.2.1 = none) (he : sd_end G X M h) : sd_J G X (sd_QR G X M (none, h)) M pc lo [] h := fun hB H locs ls hH hS hl hf => by
  rw [he.1, he.2]
  exact W.vret hB.1 hB.2.1 (by rw [hB.2.2.1, hr]) (sd_fin hB hH hS _) hS.2.2 d hB.2.2.2.2.2.2.1
theorem sd_Run_of {av : List Value} (hn : o.2.1 = h.1 + M.2.2.2.2.cells ∧ sd_SZ o.2.1 = sd_SZ h.1 + M.2.2.2.2.slots) (hy : plainName M.1.cls = true) (hav : (lg_sl av).length ≤ M.2.2.1) (hlo : lv_args 0 av = lo)
    (hJ : ∀ X : sd_CX, (sd_s X).heap.size = G.1 + h.1 → X.2.2.2.2.2.2.1 = av.toArray → sd_J G X (sd_QR G X M o) M 0 lo [] h) : sd_Run G M av h o := by
  refine ⟨hn, fun l => ?_⟩
  refine Met.ofW (cc := M.2.1) (maxL := M.2.2.1) (ret := M.2.2.2.1) hy rfl ?_
  intro p e s m args below meth c s₁ B hml hv
  obtain ⟨rfl, hH, hK, hT⟩ := hv
  have hl := lv_entry av (n := M.2.2.1) hav
  rw [hlo] at hl
  rw [lg_entry_eq]
  have hts := atoms_spec (ws := sd_ws M) B.pre
  have key := hJ (p, l, e, M.2.2.2.2, s, m, av.toArray, below, meth, c) hH.2.1 rfl ⟨B.exec, B.bytes, B.returns, hml, findClass_of_methodNamed B.named, fun w hw => hts w (List.mem_cons_of_mem _ hw), B.notSynchronized, (fun _ => (name_of_methodNamed B.named B.method).1), rfl, hK, by show G.1 ≤ s.heap.size; rw [hH.2.1]; omega, hT⟩ s.heap [] _ hH va_S.rf hl ⟨by show h.1 + G.1 - s.heap.size ≤ _; rw [hH.2.1]; omega, by show sd_SZ h.1 - sd_SZ (s.heap.size - G.1) ≤ _; rw [hH.2.1, Nat.add_sub_cancel_left]; omega⟩
  have k1 : sd_kc G ((p, l, e, M.2.2.2.2, s, m, av.toArray, below, meth, c) : sd_CX) h = 0 := by show h.1 + G.1 - s.heap.size = 0; rw [hH.2.1]; omega
  have k2 : sd_ks G ((p, l, e, M.2.2.2.2, s, m, av.toArray, below, meth, c) : sd_CX) h = 0 := by show sd_SZ h.1 - sd_SZ (s.heap.size - G.1) = 0; rw [hH.2.1, Nat.add_sub_cancel_left]; omega
  rw [k1, k2] at key
  exact key
end SC

