section SG
variable {G : sd_GX} {X : sd_CX} {Q : State → Prop} {M : sd_MX} {pc pc' : Nat} {lo : List (Nat × Value)} {st : List Value} {h : sd_H}
theorem sd_lt {e t n : Nat} (pe : sd_SH e = (t, n)) (ht : t < 900) : e < (sd_F h).1 := sd_SHlt pe ht
theorem sF_gi {idx ci k e n : Nat} (d : sd_d M pc (.getfield idx) 3 pc') (hw : sd_fl M.1.cls idx ci k) (hf : ¬ sd_FT ci k = 2) (hn : (sd_C ci).2.2 = n) (pe : sd_SH e = (ci, n)) (kk : sd_J G X Q M pc' lo (.int (h.1 e k) :: st) (sd_F h)) : sd_J G X Q M pc lo (.ref (G.1 + e) :: st) (sd_F h) := by
  subst hn
  refine sd_get d hw pe (sd_lt pe (by have := hw.2.1; omega)) ?_
  unfold sd_fv
  rw [if_neg hf]
  exact kk
theorem sF_gr {idx ci k e n r : Nat} (d : sd_d M pc (.getfield idx) 3 pc') (hw : sd_fl M.1.cls idx ci k) (hf : sd_FT ci k = 2) (hn : (sd_C ci).2.2 = n) (pe : sd_SH e = (ci, n)) (hm : ci ≠ 7 ∨ (k ≠ 7 ∧ k ≠ 8)) (hr : sd_RT e k = some r) (kk : sd_J G X Q M pc' lo (.ref (G.1 + r) :: st) (sd_F h)) : sd_J G X Q M pc lo (.ref (G.1 + e) :: st) (sd_F h) := by
  subst hn
  refine sd_get d hw pe (sd_lt pe (by have := hw.2.1; omega)) ?_
  have e1 : (sd_F h).2.2.2 e k = some r := by
    show (if e = 100 ∧ k = 7 then h.2.2 0 else if e = 100 ∧ k = 8 then h.2.2 1 else sd_RT e k) = _
    have h100 : sd_SH 100 = (7, 11) := by decide +kernel
    rcases hm with q | q
    · have hne : e ≠ 100 := fun z => by rw [z, h100] at pe; cases pe; exact q rfl
      rw [if_neg (fun z => hne z.1), if_neg (fun z => hne z.1), hr]
    · rw [if_neg (fun z => q.1 z.2), if_neg (fun z => q.2 z.2), hr]
  unfold sd_fv
  rw [if_pos hf, e1]
  exact kk
theorem sF_gm {idx k w r : Nat} (d : sd_d M pc (.getfield idx) 3 pc') (hw : sd_fl M.1.cls idx 7 k) (hk : (k = 7 ∧ w = 0) ∨ (k = 8 ∧ w = 1)) (hr : h.2.2 w = some r) (kk : sd_J G X Q M pc' lo (.ref (G.1 + r) :: st) (sd_F h)) : sd_J G X Q M pc lo (.ref (G.1 + 100) :: st) (sd_F h) := by
  have pe : sd_SH 100 = (7, (sd_C 7).2.2) := by decide +kernel
  refine sd_get d hw pe (sd_lt pe (by decide)) ?_
  have e1 : (sd_F h).2.2.2 100 k = some r := by
    show (if 100 = 100 ∧ k = 7 then h.2.2 0 else if 100 = 100 ∧ k = 8 then h.2.2 1 else sd_RT 100 k) = _
    rcases hk with ⟨rfl, rfl⟩ | ⟨rfl, rfl⟩
    · rw [if_pos ⟨rfl, rfl⟩, hr]
    · rw [if_neg (by decide), if_pos ⟨rfl, rfl⟩, hr]
  have hf : sd_FT 7 k = 2 := by rcases hk with ⟨rfl, rfl⟩ | ⟨rfl, rfl⟩ <;> decide +kernel
  unfold sd_fv
  rw [if_pos hf, e1]
  exact kk
theorem sF_pi {idx ci k e n : Nat} {v : Int32} (d : sd_d M pc (.putfield idx) 3 pc') (hw : sd_fl M.1.cls idx ci k) (hf : sd_FT ci k = 0) (hty : sd_ty ci k = .int) (hfin : ((sd_C ci).2.1 k).2.2.2 = false) (hn : (sd_C ci).2.2 = n) (pe : sd_SH e = (ci, n)) (kk : sd_J G X Q M pc' lo st (sd_F (wI h e k v))) : sd_J G X Q M pc lo (.int v :: .ref (G.1 + e) :: st) (sd_F h) := by
  subst hn
  have hc := sd_lt (h := h) pe (by have := hw.2.1; omega)
  exact sd_put0 (g := sd_F (wI h e k v)) d hw pe hc hty (Or.inl hfin) (by rfl) (by rfl) rfl (sd_wi_set G hw.2.1 pe hc (by rw [hf]; decide)) kk
theorem sF_pz {idx ci k e n : Nat} {v : Int32} (d : sd_d M pc (.putfield idx) 3 pc') (hw : sd_fl M.1.cls idx ci k) (hf : sd_FT ci k = 1) (hty : sd_ty ci k = .boolean) (hfin : ((sd_C ci).2.1 k).2.2.2 = false) (hn : (sd_C ci).2.2 = n) (pe : sd_SH e = (ci, n)) (hv : sd_isB v = true) (kk : sd_J G X Q M pc' lo st (sd_F (wI h e k v))) : sd_J G X Q M pc lo (.int v :: .ref (G.1 + e) :: st) (sd_F h) := by
  subst hn
  have hc := sd_lt (h := h) pe (by have := hw.2.1; omega)
  exact sd_put0 (g := sd_F (wI h e k v)) d hw pe hc hty (Or.inl hfin) (sd_isB_nar hv).1 (sd_isB_nar hv).2 rfl (sd_wi_set G hw.2.1 pe hc (by rw [hf]; decide)) kk
theorem sF_pm {idx k w r : Nat} {ty : FieldType} (d : sd_d M pc (.putfield idx) 3 pc') (hw : sd_fl M.1.cls idx 7 k) (hk : (k = 7 ∧ w = 0) ∨ (k = 8 ∧ w = 1)) (hty : sd_ty 7 k = ty) (hnr : ∀ a, narrow ty (.ref a) = .ref a) (hfi : ∀ a, fits ty (.ref a) = true) (hfin : ((sd_C 7).2.1 k).2.2.2 = false) (kk : sd_J G X Q M pc' lo st (sd_F (wP h w (some r)))) : sd_J G X Q M pc lo (.ref (G.1 + r) :: .ref (G.1 + 100) :: st) (sd_F h) := by
  have pe : sd_SH 100 = (7, (sd_C 7).2.2) := by decide +kernel
  have hc := sd_lt (h := h) pe (by decide)
  have hf : sd_FT 7 k = 2 := by rcases hk with ⟨rfl, rfl⟩ | ⟨rfl, rfl⟩ <;> decide +kernel
  have hset := sd_wr_set G (h := sd_F h) (v := some r) (by decide) pe hc hf
  have e : sd_wr (sd_F h) 100 k (some r) = sd_F (wP h w (some r)) := by
    rcases hk with ⟨rfl, rfl⟩ | ⟨rfl, rfl⟩
    · exact sd_F_wP0 h _
    · exact sd_F_wP1 h _
  rw [e] at hset
  exact sd_put0 (g := sd_F (wP h w (some r))) d hw pe hc hty (Or.inl hfin) (hnr _) (hfi _) rfl hset kk
theorem sF_iald {e n : Nat} {i : Int32} (d : sd_d M pc .iaload 1 pc') (pe : sd_SH e = (100, n)) (hin : sd_inB i n = true) (kk : sd_J G X Q M pc' lo (.int (h.1 e i.toNatClampNeg) :: st) (sd_F h)) : sd_J G X Q M pc lo (.int i :: .ref (G.1 + e) :: st) (sd_F h) := sd_iald d pe (sd_lt pe (by decide)) hin kk
theorem sF_dald {e n : Nat} {i : Int32} (d : sd_d M pc .daload 1 pc') (pe : sd_SH e = (101, n)) (hin : sd_inB i n = true) (kk : sd_J G X Q M pc' lo (.double (h.2.1 e i.toNatClampNeg) :: st) (sd_F h)) : sd_J G X Q M pc lo (.int i :: .ref (G.1 + e) :: st) (sd_F h) := sd_dald d pe (sd_lt pe (by decide)) hin kk
theorem sF_zald {e n : Nat} {i : Int32} (d : sd_d M pc .baload 1 pc') (pe : sd_SH e = (102, n)) (hin : sd_inB i n = true) (kk : sd_J G X Q M pc' lo (.int (h.1 e i.toNatClampNeg) :: st) (sd_F h)) : sd_J G X Q M pc lo (.int i :: .ref (G.1 + e) :: st) (sd_F h) := sd_zald d pe (sd_lt pe (by decide)) hin kk
theorem sF_R {e k r : Nat} {t n : Nat} (pe : sd_SH e = (t, n)) (ht : ¬ t = 7) (hr : sd_RT e k = some r) : (sd_F h).2.2.2 e k = some r := by
  show (if e = 100 ∧ k = 7 then h.2.2 0 else if e = 100 ∧ k = 8 then h.2.2 1 else sd_RT e k) = _
  have h100 : sd_SH 100 = (7, 11) := by decide +kernel
  have hne : e ≠ 100 := fun z => by rw [z, h100] at pe; cases pe; exact ht rfl
  rw [if_neg (fun z => hne z.1), if_neg (fun z => hne z.1), hr]
theorem sF_aald {e n t r : Nat} {i : Int32} (d : sd_d M pc .aaload 1 pc') (pe : sd_SH e = (t, n)) (ht : t = 103 ∨ t = 104 ∨ t = 105) (hin : sd_inB i n = true) (hr : sd_RT e i.toNatClampNeg = some r) (kk : sd_J G X Q M pc' lo (.ref (G.1 + r) :: st) (sd_F h)) : sd_J G X Q M pc lo (.int i :: .ref (G.1 + e) :: st) (sd_F h) := sd_aald d pe ht (sd_lt pe (by omega)) hin (sF_R pe (by omega) hr) kk
theorem sF_aald2 {e n r : Nat} {i : Int32} (d : sd_d M pc .aaload 1 pc') (pe : sd_SH e = (106, n)) (hin : sd_inB i n = true) (hr : sd_RT e i.toNatClampNeg = some r) (kk : sd_J G X Q M pc' lo (.ref (G.1 + r) :: st) (sd_F h)) : sd_J G X Q M pc lo (.int i :: .ref (G.1 + e) :: st) (sd_F h) := fun hB H locs ls hH hS hl hf => by
  obtain ⟨d, rfl⟩ := d
  have k2 := kk hB H locs ls hH hS hl hf
  have hR := sF_R (h := h) pe (by decide) hr
  have ha := sd_at_arr G (h := sd_F h) pe (by decide) (sd_lt pe (by decide))
  have hin' := sd_in_of hin
  have hlt : i.toNatClampNeg < n := Nat.not_le.mp fun q => hin' (Or.inr q)
  refine W.aald (v := .ref (G.1 + r)) (ty := .array .int) hB.1 hB.2.1 (hH.1 e _ ha) ((hB.2.2.2.2.2.2.2.2.2.1.2 6 _ rfl).1 n (fun j => va_rf (((sd_F h).2.2.2 e j).map (fun a => G.1 + a)))) rfl (fun q => by cases q) (by show ¬ (i < 0 ∨ (arrV _ _ _).slots.size ≤ _); rw [arrV_size]; exact hin') ?_ rfl rfl d k2
  show (arrV _ _ _).slots[_]? = _
  rw [arrV_read _ _ hlt]
  show some (va_rf (((sd_F h).2.2.2 e i.toNatClampNeg).map (fun a => G.1 + a))) = _
  rw [hR]
  rfl
theorem sF_iast {e n : Nat} {i v : Int32} (d : sd_d M pc .iastore 1 pc') (pe : sd_SH e = (100, n)) (hin : sd_inB i n = true) (kk : sd_J G X Q M pc' lo st (sd_F (wI h e i.toNatClampNeg v))) : sd_J G X Q M pc lo (.int v :: .int i :: .ref (G.1 + e) :: st) (sd_F h) := sd_iast d pe (sd_lt pe (by decide)) hin kk
theorem sF_dast {e n : Nat} {i : Int32} {v : UInt64} (d : sd_d M pc .dastore 1 pc') (pe : sd_SH e = (101, n)) (hin : sd_inB i n = true) (kk : sd_J G X Q M pc' lo st (sd_F (wD h e i.toNatClampNeg v))) : sd_J G X Q M pc lo (.double v :: .int i :: .ref (G.1 + e) :: st) (sd_F h) := sd_dast d pe (sd_lt pe (by decide)) hin kk
theorem sF_zast {e n : Nat} {i v : Int32} (d : sd_d M pc .bastore 1 pc') (pe : sd_SH e = (102, n)) (hin : sd_inB i n = true) (hv : sd_isB v = true) (kk : sd_J G X Q M pc' lo st (sd_F (wI h e i.toNatClampNeg v))) : sd_J G X Q M pc lo (.int v :: .int i :: .ref (G.1 + e) :: st) (sd_F h) := sd_zast d pe (sd_lt pe (by decide)) hin hv kk
theorem sd_endF (hs : (sd_s X).heap.size = G.1 + (sd_F h).1) (hM : M.2.2.2.2.cells = 0 ∧ M.2.2.2.2.slots = 0) : ∀ g : sd_H, sd_end G X M (sd_F g) := by
  intro g
  have e1 : sd_kc G X (sd_F g) = 0 := by
    show sd_NT + G.1 - (sd_s X).heap.size = 0
    rw [hs]
    show sd_NT + G.1 - (G.1 + sd_NT) = 0
    omega
  have e2 : sd_ks G X (sd_F g) = 0 := by
    show sd_SZ sd_NT - sd_SZ ((sd_s X).heap.size - G.1) = 0
    rw [hs, Nat.add_sub_cancel_left]
    show sd_SZ sd_NT - sd_SZ sd_NT = 0
    omega
  exact ⟨e1.trans hM.1.symm, e2.trans hM.2.symm⟩
/-- a call's contract, over the whole heap -/
abbrev sd_RunF (G : sd_GX) (M : sd_MX) (av : List Value) (h : sd_H) (v : Option Value) (g : sd_H) : Prop := sd_Run G M av (sd_F h) (v, sd_F g)
theorem sF_run {av : List Value} {v : Option Value} {g : sd_H} (hM : M.2.2.2.2.cells = 0 ∧ M.2.2.2.2.slots = 0) (hy : plainName M.1.cls = true) (hav : (lg_sl av).length ≤ M.2.2.1) (hlo : lv_args 0 av = lo)
    (hJ : ∀ X : sd_CX, (∀ g : sd_H, sd_end G X M (sd_F g)) → sd_J G X (sd_QR G X M (v, sd_F g)) M 0 lo [] (sd_F h)) : sd_RunF G M av h v g :=
  sd_Run_of (o := (v, sd_F g)) ⟨by show sd_NT = sd_NT + _; rw [hM.1, Nat.add_zero], by show sd_SZ sd_NT = sd_SZ sd_NT + _; rw [hM.2, Nat.add_zero]⟩ hy hav hlo (fun X hs _ => hJ X (sd_endF hs hM))
end SG
/-! ===== words of the printed functions ===== -/
def FU : Nat := 100000
def gd {β : Type} (b : Bool) (k : Option β) : Option β := if b = true then k else none
def hb {β : Type} (h : sd_H) (k : sd_H → Option β) : Option β := k h
def b1 {α β : Type} (o : Option α) (k : α → Option β) : Option β := match o with
  | some a => k a
  | none => none
def b2 {α β : Type} (o : Option (sd_H × α)) (k : sd_H → α → Option β) : Option β := match o with
  | some p => k p.1 p.2
  | none => none
/-- a reference that may be null, and has to be of a shape -/
def op {β : Type} (o : Option Nat) (t n : Nat) (k : Nat → Option β) : Option β := match o with
  | some c => if sd_SH c = (t, n) then k c else none
  | none => none
theorem gd_some {β : Type} {b : Bool} {k : Option β} {r : β} (h : gd b k = some r) : b = true ∧ k = some r := by
  unfold gd at h
  by_cases q : b = true
  · rw [if_pos q] at h; exact ⟨q, h⟩
  · rw [if_neg q] at h; cases h
theorem hb_some {β : Type} {e : sd_H} {k : sd_H → Option β} {r : β} (h : hb e k = some r) : ∃ g, g = e ∧ k g = some r := ⟨e, rfl, h⟩
theorem b1_some {α β : Type} {o : Option α} {k : α → Option β} {r : β} (h : b1 o k = some r) : ∃ a, o = some a ∧ k a = some r := by
  cases o with
  | none => cases h
  | some a => exact ⟨a, rfl, h⟩
theorem b2_some {α β : Type} {o : Option (sd_H × α)} {k : sd_H → α → Option β} {r : β} (h : b2 o k = some r) : ∃ g a, o = some (g, a) ∧ k g a = some r := by
  cases o with
  | none => cases h
  | some p => exact ⟨p.1, p.2, rfl, h⟩
theorem op_some {β : Type} {o : Option Nat} {t n : Nat} {k : Nat → Option β} {r : β} (h : op o t n k = some r) : ∃ c, o = some c ∧ sd_SH c = (t, n) ∧ k c = some r := by
  cases o with
  | none => cases h
  | some c =>
    by_cases q : sd_SH c = (t, n)
    · exact ⟨c, rfl, q, by simpa [op, q] using h⟩
    · simp [op, q] at h
theorem ite_p {α : Type} {c : Prop} [Decidable c] {a b r : α} (hc : c) (h : (if c then a else b) = r) : a = r := by rw [if_pos hc] at h; exact h
theorem ite_n {α : Type} {c : Prop} [Decidable c] {a b r : α} (hc : ¬ c) (h : (if c then a else b) = r) : b = r := by rw [if_neg hc] at h; exact h
theorem ne_ti {x v : Int32} {n : Int} (h : ¬ x = v) (hv : v.toInt = n) : x.toInt ≠ n := fun z => h (Int32.toInt_inj.mp (z.trans hv.symm))
def nz (x : Int32) : Bool := decide (¬ x = 0)
theorem nz_of {x : Int32} (h : nz x = true) : ¬ x = 0 := of_decide_eq_true h
def nf (x : UInt32) : Bool := decide (x &&& 0x7fffffff ≤ 0x7f800000)
def nd (x : UInt64) : Bool := decide (x &&& 0x7fffffffffffffff ≤ 0x7ff0000000000000)
theorem nf_of {x : UInt32} (h : nf x = true) : vf_n32 x := of_decide_eq_true (p := x &&& 0x7fffffff ≤ 0x7f800000) h
theorem nd_of {x : UInt64} (h : nd x = true) : vf_n64 x := of_decide_eq_true (p := x &&& 0x7fffffffffffffff ≤ 0x7ff0000000000000) h

theorem sd_all {P : Nat → Prop} (h : ∀ c, c < sd_NT → P c) (h2 : ∀ c, sd_NT ≤ c → P c) : ∀ c, P c := fun c => (Nat.lt_or_ge c sd_NT).elim (h c) (h2 c)
theorem sd_big {c t n : Nat} (hc : sd_NT ≤ c) (ht : t < 900) : ¬ sd_SH c = (t, n) := fun q => absurd (sd_SHlt q ht) (Nat.not_lt.mpr hc)
theorem rt_4_0 {c : Nat} (h : sd_SH c = (4, 4)) : sd_RT c 0 = some (c + 1) := by
  have a : ∀ c, c < sd_NT → sd_SH c = (4, 4) → sd_RT c 0 = some (c + 1) := by decide +kernel
  exact a c (sd_SHlt h (by decide)) h
theorem sh_4_0 {c : Nat} (h : sd_SH c = (4, 4)) : sd_SH (c + 1) = (100, 3) := by
  have a : ∀ c, c < sd_NT → sd_SH c = (4, 4) → sd_SH (c + 1) = (100, 3) := by decide +kernel
  exact a c (sd_SHlt h (by decide)) h
theorem rt_4_1 {c : Nat} (h : sd_SH c = (4, 4)) : sd_RT c 1 = some (c + 2) := by
  have a : ∀ c, c < sd_NT → sd_SH c = (4, 4) → sd_RT c 1 = some (c + 2) := by decide +kernel
  exact a c (sd_SHlt h (by decide)) h
theorem sh_4_1 {c : Nat} (h : sd_SH c = (4, 4)) : sd_SH (c + 2) = (100, 10) := by
  have a : ∀ c, c < sd_NT → sd_SH c = (4, 4) → sd_SH (c + 2) = (100, 10) := by decide +kernel
  exact a c (sd_SHlt h (by decide)) h
theorem rt_6_0 {c : Nat} (h : sd_SH c = (6, 4)) : sd_RT c 0 = some (c + 1) := by
  have a : ∀ c, c < sd_NT → sd_SH c = (6, 4) → sd_RT c 0 = some (c + 1) := by decide +kernel
  exact a c (sd_SHlt h (by decide)) h
theorem sh_6_0 {c : Nat} (h : sd_SH c = (6, 4)) : sd_SH (c + 1) = (100, 6) := by
  have a : ∀ c, c < sd_NT → sd_SH c = (6, 4) → sd_SH (c + 1) = (100, 6) := by decide +kernel
  exact a c (sd_SHlt h (by decide)) h
theorem rt_6_1 {c : Nat} (h : sd_SH c = (6, 4)) : sd_RT c 1 = some (c + 2) := by
  have a : ∀ c, c < sd_NT → sd_SH c = (6, 4) → sd_RT c 1 = some (c + 2) := by decide +kernel
  exact a c (sd_SHlt h (by decide)) h
theorem sh_6_1 {c : Nat} (h : sd_SH c = (6, 4)) : sd_SH (c + 2) = (100, 6) := by
  have a : ∀ c, c < sd_NT → sd_SH c = (6, 4) → sd_SH (c + 2) = (100, 6) := by decide +kernel
  exact a c (sd_SHlt h (by decide)) h
theorem rt_6_2 {c : Nat} (h : sd_SH c = (6, 4)) : sd_RT c 2 = some (c + 3) := by
  have a : ∀ c, c < sd_NT → sd_SH c = (6, 4) → sd_RT c 2 = some (c + 3) := by decide +kernel
  exact a c (sd_SHlt h (by decide)) h
theorem sh_6_2 {c : Nat} (h : sd_SH c = (6, 4)) : sd_SH (c + 3) = (101, 144) := by
  have a : ∀ c, c < sd_NT → sd_SH c = (6, 4) → sd_SH (c + 3) = (101, 144) := by decide +kernel
  exact a c (sd_SHlt h (by decide)) h
theorem rt_6_3 {c : Nat} (h : sd_SH c = (6, 4)) : sd_RT c 3 = some (c + 4) := by
  have a : ∀ c, c < sd_NT → sd_SH c = (6, 4) → sd_RT c 3 = some (c + 4) := by decide +kernel
  exact a c (sd_SHlt h (by decide)) h
theorem sh_6_3 {c : Nat} (h : sd_SH c = (6, 4)) : sd_SH (c + 4) = (100, 144) := by
  have a : ∀ c, c < sd_NT → sd_SH c = (6, 4) → sd_SH (c + 4) = (100, 144) := by decide +kernel
  exact a c (sd_SHlt h (by decide)) h
theorem rt_9_0 {c : Nat} (h : sd_SH c = (9, 6)) : sd_RT c 0 = some (c + 1) := by
  have a : ∀ c, c < sd_NT → sd_SH c = (9, 6) → sd_RT c 0 = some (c + 1) := by decide +kernel
  exact a c (sd_SHlt h (by decide)) h
theorem sh_9_0 {c : Nat} (h : sd_SH c = (9, 6)) : sd_SH (c + 1) = (105, 3) := by
  have a : ∀ c, c < sd_NT → sd_SH c = (9, 6) → sd_SH (c + 1) = (105, 3) := by decide +kernel
  exact a c (sd_SHlt h (by decide)) h
theorem rta_7 {j : Nat} (h : j < 5) : sd_RT 7 j = some (8 + 5 * j) := by
  have a : ∀ j, j < 5 → sd_RT 7 j = some (8 + 5 * j) := by decide +kernel
  exact a j h
theorem sha_7 {j : Nat} (h : j < 5) : sd_SH (8 + 5 * j) = (9, 6) := by
  have a : ∀ j, j < 5 → sd_SH (8 + 5 * j) = (9, 6) := by decide +kernel
  exact a j h
theorem rta_34 {j : Nat} (h : j < 20) : sd_RT 34 j = some (35 + 1 * j) := by
  have a : ∀ j, j < 20 → sd_RT 34 j = some (35 + 1 * j) := by decide +kernel
  exact a j h
theorem sha_34 {j : Nat} (h : j < 20) : sd_SH (35 + 1 * j) = (100, 6) := by
  have a : ∀ j, j < 20 → sd_SH (35 + 1 * j) = (100, 6) := by decide +kernel
  exact a j h
theorem rta_57 {j : Nat} (h : j < 4) : sd_RT 57 j = some (58 + 1 * j) := by
  have a : ∀ j, j < 4 → sd_RT 57 j = some (58 + 1 * j) := by decide +kernel
  exact a j h
theorem sha_57 {j : Nat} (h : j < 4) : sd_SH (58 + 1 * j) = (100, 60) := by
  have a : ∀ j, j < 4 → sd_SH (58 + 1 * j) = (100, 60) := by decide +kernel
  exact a j h
theorem rta_64 {j : Nat} (h : j < 30) : sd_RT 64 j = some (67 + 1 * j) := by
  have a : ∀ j, j < 30 → sd_RT 64 j = some (67 + 1 * j) := by decide +kernel
  exact a j h
theorem sha_64 {j : Nat} (h : j < 30) : sd_SH (67 + 1 * j) = (8, 3) := by
  have a : ∀ j, j < 30 → sd_SH (67 + 1 * j) = (8, 3) := by decide +kernel
  exact a j h
theorem rta_R {c j : Nat} (h : sd_SH c = (105, 3)) (hj : j < 3) : sd_RT c j = some (c + 1 + j) := by
  have a : ∀ c, c < sd_NT → sd_SH c = (105, 3) → ∀ j, j < 3 → sd_RT c j = some (c + 1 + j) := by decide +kernel
  exact a c (sd_SHlt h (by decide)) h j hj
theorem sha_R {c j : Nat} (h : sd_SH c = (105, 3)) (hj : j < 3) : sd_SH (c + 1 + j) = (5, 4) := by
  have a : ∀ c, c < sd_NT → sd_SH c = (105, 3) → ∀ j, j < 3 → sd_SH (c + 1 + j) = (5, 4) := by decide +kernel
  exact a c (sd_SHlt h (by decide)) h j hj
theorem inB_lt {i : Int32} {n : Nat} (h : sd_inB i n = true) : i.toNatClampNeg < n := by
  unfold sd_inB at h
  rw [Bool.and_eq_true, decide_eq_true_eq, decide_eq_true_eq] at h
  exact h.2
theorem SH_0 : sd_SH 0 = (11, 17) := by decide +kernel
theorem SH_1 : sd_SH 1 = (6, 4) := by decide +kernel
theorem SH_2 : sd_SH 2 = (100, 6) := by decide +kernel
theorem SH_3 : sd_SH 3 = (100, 6) := by decide +kernel
theorem SH_4 : sd_SH 4 = (101, 144) := by decide +kernel
theorem SH_5 : sd_SH 5 = (100, 144) := by decide +kernel
theorem SH_6 : sd_SH 6 = (2, 3) := by decide +kernel
theorem SH_7 : sd_SH 7 = (104, 5) := by decide +kernel
theorem SH_8 : sd_SH 8 = (9, 6) := by decide +kernel
theorem SH_9 : sd_SH 9 = (105, 3) := by decide +kernel
theorem SH_10 : sd_SH 10 = (5, 4) := by decide +kernel
theorem SH_11 : sd_SH 11 = (5, 4) := by decide +kernel
theorem SH_12 : sd_SH 12 = (5, 4) := by decide +kernel
theorem SH_13 : sd_SH 13 = (9, 6) := by decide +kernel
theorem SH_14 : sd_SH 14 = (105, 3) := by decide +kernel
theorem SH_15 : sd_SH 15 = (5, 4) := by decide +kernel
theorem SH_16 : sd_SH 16 = (5, 4) := by decide +kernel
theorem SH_17 : sd_SH 17 = (5, 4) := by decide +kernel
theorem SH_18 : sd_SH 18 = (9, 6) := by decide +kernel
theorem SH_19 : sd_SH 19 = (105, 3) := by decide +kernel
theorem SH_20 : sd_SH 20 = (5, 4) := by decide +kernel
theorem SH_21 : sd_SH 21 = (5, 4) := by decide +kernel
theorem SH_22 : sd_SH 22 = (5, 4) := by decide +kernel
theorem SH_23 : sd_SH 23 = (9, 6) := by decide +kernel
theorem SH_24 : sd_SH 24 = (105, 3) := by decide +kernel
theorem SH_25 : sd_SH 25 = (5, 4) := by decide +kernel
theorem SH_26 : sd_SH 26 = (5, 4) := by decide +kernel
theorem SH_27 : sd_SH 27 = (5, 4) := by decide +kernel
theorem SH_28 : sd_SH 28 = (9, 6) := by decide +kernel
theorem SH_29 : sd_SH 29 = (105, 3) := by decide +kernel
theorem SH_30 : sd_SH 30 = (5, 4) := by decide +kernel
theorem SH_31 : sd_SH 31 = (5, 4) := by decide +kernel
theorem SH_32 : sd_SH 32 = (5, 4) := by decide +kernel
theorem SH_33 : sd_SH 33 = (0, 3) := by decide +kernel
theorem SH_34 : sd_SH 34 = (106, 20) := by decide +kernel
theorem SH_35 : sd_SH 35 = (100, 6) := by decide +kernel
theorem SH_36 : sd_SH 36 = (100, 6) := by decide +kernel
theorem SH_37 : sd_SH 37 = (100, 6) := by decide +kernel
theorem SH_38 : sd_SH 38 = (100, 6) := by decide +kernel
theorem SH_39 : sd_SH 39 = (100, 6) := by decide +kernel
theorem SH_40 : sd_SH 40 = (100, 6) := by decide +kernel
theorem SH_41 : sd_SH 41 = (100, 6) := by decide +kernel
theorem SH_42 : sd_SH 42 = (100, 6) := by decide +kernel
theorem SH_43 : sd_SH 43 = (100, 6) := by decide +kernel
theorem SH_44 : sd_SH 44 = (100, 6) := by decide +kernel
theorem SH_45 : sd_SH 45 = (100, 6) := by decide +kernel
theorem SH_46 : sd_SH 46 = (100, 6) := by decide +kernel
theorem SH_47 : sd_SH 47 = (100, 6) := by decide +kernel
theorem SH_48 : sd_SH 48 = (100, 6) := by decide +kernel
theorem SH_49 : sd_SH 49 = (100, 6) := by decide +kernel
theorem SH_50 : sd_SH 50 = (100, 6) := by decide +kernel
theorem SH_51 : sd_SH 51 = (100, 6) := by decide +kernel
theorem SH_52 : sd_SH 52 = (100, 6) := by decide +kernel
theorem SH_53 : sd_SH 53 = (100, 6) := by decide +kernel
theorem SH_54 : sd_SH 54 = (100, 6) := by decide +kernel
theorem SH_55 : sd_SH 55 = (100, 5) := by decide +kernel
theorem SH_56 : sd_SH 56 = (10, 6) := by decide +kernel
theorem SH_57 : sd_SH 57 = (106, 4) := by decide +kernel
theorem SH_58 : sd_SH 58 = (100, 60) := by decide +kernel
theorem SH_59 : sd_SH 59 = (100, 60) := by decide +kernel
theorem SH_60 : sd_SH 60 = (100, 60) := by decide +kernel
theorem SH_61 : sd_SH 61 = (100, 60) := by decide +kernel
theorem SH_62 : sd_SH 62 = (100, 6) := by decide +kernel
theorem SH_63 : sd_SH 63 = (1, 4) := by decide +kernel
theorem SH_64 : sd_SH 64 = (103, 30) := by decide +kernel
theorem SH_65 : sd_SH 65 = (100, 30) := by decide +kernel
theorem SH_66 : sd_SH 66 = (8, 3) := by decide +kernel
theorem SH_67 : sd_SH 67 = (8, 3) := by decide +kernel
theorem SH_68 : sd_SH 68 = (8, 3) := by decide +kernel
theorem SH_69 : sd_SH 69 = (8, 3) := by decide +kernel
theorem SH_70 : sd_SH 70 = (8, 3) := by decide +kernel
theorem SH_71 : sd_SH 71 = (8, 3) := by decide +kernel
theorem SH_72 : sd_SH 72 = (8, 3) := by decide +kernel
theorem SH_73 : sd_SH 73 = (8, 3) := by decide +kernel
theorem SH_74 : sd_SH 74 = (8, 3) := by decide +kernel
theorem SH_75 : sd_SH 75 = (8, 3) := by decide +kernel
theorem SH_76 : sd_SH 76 = (8, 3) := by decide +kernel
theorem SH_77 : sd_SH 77 = (8, 3) := by decide +kernel
theorem SH_78 : sd_SH 78 = (8, 3) := by decide +kernel
theorem SH_79 : sd_SH 79 = (8, 3) := by decide +kernel
theorem SH_80 : sd_SH 80 = (8, 3) := by decide +kernel
theorem SH_81 : sd_SH 81 = (8, 3) := by decide +kernel
theorem SH_82 : sd_SH 82 = (8, 3) := by decide +kernel
theorem SH_83 : sd_SH 83 = (8, 3) := by decide +kernel
theorem SH_84 : sd_SH 84 = (8, 3) := by decide +kernel
theorem SH_85 : sd_SH 85 = (8, 3) := by decide +kernel
theorem SH_86 : sd_SH 86 = (8, 3) := by decide +kernel
theorem SH_87 : sd_SH 87 = (8, 3) := by decide +kernel
theorem SH_88 : sd_SH 88 = (8, 3) := by decide +kernel
theorem SH_89 : sd_SH 89 = (8, 3) := by decide +kernel
theorem SH_90 : sd_SH 90 = (8, 3) := by decide +kernel
theorem SH_91 : sd_SH 91 = (8, 3) := by decide +kernel
theorem SH_92 : sd_SH 92 = (8, 3) := by decide +kernel
theorem SH_93 : sd_SH 93 = (8, 3) := by decide +kernel
theorem SH_94 : sd_SH 94 = (8, 3) := by decide +kernel
theorem SH_95 : sd_SH 95 = (8, 3) := by decide +kernel
theorem SH_96 : sd_SH 96 = (8, 3) := by decide +kernel
theorem SH_97 : sd_SH 97 = (8, 3) := by decide +kernel
theorem SH_98 : sd_SH 98 = (8, 3) := by decide +kernel
theorem SH_99 : sd_SH 99 = (8, 3) := by decide +kernel
theorem SH_100 : sd_SH 100 = (7, 11) := by decide +kernel
theorem SH_101 : sd_SH 101 = (100, 6) := by decide +kernel
theorem SH_102 : sd_SH 102 = (101, 1440) := by decide +kernel
theorem SH_103 : sd_SH 103 = (100, 60) := by decide +kernel
theorem SH_104 : sd_SH 104 = (100, 4) := by decide +kernel
theorem SH_105 : sd_SH 105 = (100, 4) := by decide +kernel
theorem SH_106 : sd_SH 106 = (100, 4) := by decide +kernel
theorem SH_107 : sd_SH 107 = (4, 4) := by decide +kernel
theorem SH_108 : sd_SH 108 = (100, 3) := by decide +kernel
theorem SH_109 : sd_SH 109 = (100, 10) := by decide +kernel
theorem SH_110 : sd_SH 110 = (6, 4) := by decide +kernel
theorem SH_111 : sd_SH 111 = (100, 6) := by decide +kernel
theorem SH_112 : sd_SH 112 = (100, 6) := by decide +kernel
theorem SH_113 : sd_SH 113 = (101, 144) := by decide +kernel
theorem SH_114 : sd_SH 114 = (100, 144) := by decide +kernel
theorem SH_115 : sd_SH 115 = (6, 4) := by decide +kernel
theorem SH_116 : sd_SH 116 = (100, 6) := by decide +kernel
theorem SH_117 : sd_SH 117 = (100, 6) := by decide +kernel
theorem SH_118 : sd_SH 118 = (101, 144) := by decide +kernel
theorem SH_119 : sd_SH 119 = (100, 144) := by decide +kernel
theorem SH_120 : sd_SH 120 = (4, 4) := by decide +kernel
theorem SH_121 : sd_SH 121 = (100, 3) := by decide +kernel
theorem SH_122 : sd_SH 122 = (100, 10) := by decide +kernel
theorem SH_123 : sd_SH 123 = (4, 4) := by decide +kernel
theorem SH_124 : sd_SH 124 = (100, 3) := by decide +kernel
theorem SH_125 : sd_SH 125 = (100, 10) := by decide +kernel
theorem SH_126 : sd_SH 126 = (12, 47) := by decide +kernel
theorem SH_127 : sd_SH 127 = (100, 6) := by decide +kernel
theorem SH_128 : sd_SH 128 = (100, 6) := by decide +kernel
theorem SH_129 : sd_SH 129 = (101, 144) := by decide +kernel
theorem SH_130 : sd_SH 130 = (100, 144) := by decide +kernel
theorem SH_131 : sd_SH 131 = (101, 24) := by decide +kernel
theorem SH_132 : sd_SH 132 = (100, 5) := by decide +kernel
theorem SH_133 : sd_SH 133 = (100, 5) := by decide +kernel
theorem SH_134 : sd_SH 134 = (100, 5) := by decide +kernel
theorem SH_135 : sd_SH 135 = (100, 5) := by decide +kernel
theorem SH_136 : sd_SH 136 = (100, 5) := by decide +kernel
theorem SH_137 : sd_SH 137 = (100, 15) := by decide +kernel
theorem SH_138 : sd_SH 138 = (100, 15) := by decide +kernel
theorem SH_139 : sd_SH 139 = (100, 15) := by decide +kernel
theorem SH_140 : sd_SH 140 = (100, 15) := by decide +kernel
theorem SH_141 : sd_SH 141 = (100, 120) := by decide +kernel
theorem SH_142 : sd_SH 142 = (100, 5) := by decide +kernel
theorem SH_143 : sd_SH 143 = (100, 120) := by decide +kernel
theorem SH_144 : sd_SH 144 = (100, 240) := by decide +kernel
theorem SH_145 : sd_SH 145 = (100, 6) := by decide +kernel
theorem SH_146 : sd_SH 146 = (100, 6) := by decide +kernel
theorem SH_147 : sd_SH 147 = (101, 144) := by decide +kernel
theorem SH_148 : sd_SH 148 = (101, 1440) := by decide +kernel
theorem SH_149 : sd_SH 149 = (102, 1440) := by decide +kernel
theorem SH_150 : sd_SH 150 = (100, 3) := by decide +kernel
theorem SH_151 : sd_SH 151 = (100, 10) := by decide +kernel
theorem SH_152 : sd_SH 152 = (100, 10) := by decide +kernel
theorem SH_153 : sd_SH 153 = (101, 144) := by decide +kernel
theorem SH_154 : sd_SH 154 = (101, 144) := by decide +kernel
theorem SH_155 : sd_SH 155 = (100, 144) := by decide +kernel
theorem SH_156 : sd_SH 156 = (100, 10) := by decide +kernel
theorem SH_157 : sd_SH 157 = (100, 3) := by decide +kernel
theorem SH_158 : sd_SH 158 = (100, 3) := by decide +kernel
section SM
variable {G : sd_GX} {X : sd_CX} {Q : State → Prop} {M : sd_MX} {pc pc' : Nat} {lo : List (Nat × Value)} {st : List Value} {h : sd_H}
abbrev sd_mm (own : String) (idx : Nat) (y : MethodName) (c : ByteArray) (n : Nat) : Prop := Cond.methodLink own idx y ∈ sd_tb ∧ Cond.static y ∈ sd_tb ∧ Cond.initialized "java/lang/Math" ∈ sd_tb ∧ Cond.code y c n (some .int) ∈ sd_tb
theorem sF_mmax {idx : Nat} {x y : Int32} (d : decode M.2.1 pc = .ok (.invokestatic idx, 3)) (hp : pc + 3 = pc') (hw : sd_mm M.1.cls idx Lib.Math.max.name Lib.Math.max.code 2) (hr : 1 ≤ M.2.2.2.2.frames) (hl2 : (st.map fun v => v.category).sum + 13 ≤ M.2.2.2.2.locals) (kk : sd_J G X Q M pc' lo (.int (if x < y then y else x) :: st) (sd_F h)) : sd_J G X Q M pc lo (.int y :: .int x :: st) (sd_F h) := fun hB H locs ls hH hS hl hf => by
  subst hp
  have hts := hB.2.2.2.2.2.1
  have eR := hB.2.2.2.2.2.2.2.2.1
  exact va_mmax hB.1 hB.2.1 (hB.2.2.2.1.trans hl.1.symm) hB.2.2.2.2.1 (hts _ hw.1) (hts _ hw.2.1) (hts _ hw.2.2.1) (hts _ hw.2.2.2) (by rw [eR]; exact hr) (by rw [eR]; exact hl2) hf.1 hf.2 d (kk hB H locs ls hH hS hl hf)
theorem sF_mmin {idx : Nat} {x y : Int32} (d : decode M.2.1 pc = .ok (.invokestatic idx, 3)) (hp : pc + 3 = pc') (hw : sd_mm M.1.cls idx Lib.Math.min.name Lib.Math.min.code 2) (hr : 1 ≤ M.2.2.2.2.frames) (hl2 : (st.map fun v => v.category).sum + 13 ≤ M.2.2.2.2.locals) (kk : sd_J G X Q M pc' lo (.int (if y < x then y else x) :: st) (sd_F h)) : sd_J G X Q M pc lo (.int y :: .int x :: st) (sd_F h) := fun hB H locs ls hH hS hl hf => by
  subst hp
  have hts := hB.2.2.2.2.2.1
  have eR := hB.2.2.2.2.2.2.2.2.1
  exact va_mmin hB.1 hB.2.1 (hB.2.2.2.1.trans hl.1.symm) hB.2.2.2.2.1 (hts _ hw.1) (hts _ hw.2.1) (hts _ hw.2.2.1) (hts _ hw.2.2.2) (by rw [eR]; exact hr) (by rw [eR]; exact hl2) hf.1 hf.2 d (kk hB H locs ls hH hS hl hf)
theorem sF_mabs {idx : Nat} {x : Int32} (d : decode M.2.1 pc = .ok (.invokestatic idx, 3)) (hp : pc + 3 = pc') (hw : sd_mm M.1.cls idx Lib.Math.abs.name Lib.Math.abs.code 1) (hr : 1 ≤ M.2.2.2.2.frames) (hl2 : (st.map fun v => v.category).sum + 13 ≤ M.2.2.2.2.locals) (kk : sd_J G X Q M pc' lo (.int (if 0 ≤ x then x else 0 - x) :: st) (sd_F h)) : sd_J G X Q M pc lo (.int x :: st) (sd_F h) := fun hB H locs ls hH hS hl hf => by
  subst hp
  have hts := hB.2.2.2.2.2.1
  have eR := hB.2.2.2.2.2.2.2.2.1
  exact va_mabs hB.1 hB.2.1 (hB.2.2.2.1.trans hl.1.symm) hB.2.2.2.2.1 (hts _ hw.1) (hts _ hw.2.1) (hts _ hw.2.2.1) (hts _ hw.2.2.2) (by rw [eR]; exact hr) (by rw [eR]; exact hl2) hf.1 hf.2 d (kk hB H locs ls hH hS hl hf)
/-- the heap behind a copy of places from one row to another -/
def cpI (h : sd_H) (a : Nat) (sp : Int32) (b : Nat) (dp n : Int32) : sd_H := (fun c k => if c = b then va_cpy (h.1 a) (h.1 b) sp.toNatClampNeg dp.toNatClampNeg n.toNatClampNeg k else h.1 c k, h.2)
def cpD (h : sd_H) (a : Nat) (sp : Int32) (b : Nat) (dp n : Int32) : sd_H := (h.1, fun c k => if c = b then va_cpy (h.2.1 a) (h.2.1 b) sp.toNatClampNeg dp.toNatClampNeg n.toNatClampNeg k else h.2.1 c k, h.2.2)
def acOK (sp dp n : Int32) (n0 n1 : Nat) : Bool := decide (¬ sp < 0) && (decide (¬ dp < 0) && (decide (¬ n < 0) && (decide (sp.toNatClampNeg + n.toNatClampNeg ≤ n0) && decide (dp.toNatClampNeg + n.toNatClampNeg ≤ n1))))
theorem acOK_of {sp dp n : Int32} {n0 n1 : Nat} (h : acOK sp dp n n0 n1 = true) : (¬ sp < 0) ∧ (¬ dp < 0) ∧ (¬ n < 0) ∧ sp.toNatClampNeg + n.toNatClampNeg ≤ n0 ∧ dp.toNatClampNeg + n.toNatClampNeg ≤ n1 := by
  unfold acOK at h
  simp only [Bool.and_eq_true, decide_eq_true_eq] at h
  exact h
abbrev sd_ac (own : String) (idx : Nat) : Prop := Cond.methodLink own idx arraycopyName ∈ sd_tb ∧ Cond.native arraycopyName ∈ sd_tb ∧ Cond.static arraycopyName ∈ sd_tb ∧ Cond.initialized "java/lang/System" ∈ sd_tb
/-- how many cells there are is known by the world and by the room -/
theorem sd_size {g : sd_HX} (hB : sd_BD G X M) {H H1 : Heap} {locs : List Loc} (hH : sd_HR G g H) (hS : va_S (sd_A G) (sd_s X).heap H locs) {g1 : sd_HX} (hn : g.1 = g1.1) (hpos : 0 < g1.1) (hP : va_P (sd_dD G) sd_cls (sd_W G g1) H1) {T : State} (hT : T.heap = H1) {locs1 : List Loc} {k : Nat} (Xs : Stand X.1 X.2.1 X.2.2.1 X.2.2.2.1 (sd_s X) X.2.2.2.2.2.1 X.2.2.2.2.2.2.1 X.2.2.2.2.2.2.2.1 X.2.2.2.2.2.2.2.2.1 X.2.2.2.2.2.2.2.2.2 T locs1 (sd_kc G X g) k) : H1.size = H.size := by
  have a1 := Xs.heapSize
  have a2 := hS.1
  have a3 := hH.2.1
  have a4 := hB.2.2.2.2.2.2.2.2.2.2.1
  have a5 := (hP (g1.1 - 1) _ (sd_W_at G (show g1.1 - 1 < g1.1 by omega))).lt
  have a6 : G.1 + (g1.1 - 1) < H1.size := a5
  rw [hT] at a1
  unfold sd_kc at a1
  omega
theorem sF_copyd {idx e0 e1 n0 n1 : Nat} {sp dp n : Int32} (d : decode M.2.1 pc = .ok (.invokestatic idx, 3)) (hp : pc + 3 = pc') (hw : sd_ac M.1.cls idx) (p0 : sd_SH e0 = (101, n0)) (p1 : sd_SH e1 = (101, n1)) (hk : acOK sp dp n n0 n1 = true) (hr : 1 ≤ M.2.2.2.2.frames) (hl2 : (st.map fun v => v.category).sum + (nativeFrameWords "java/lang/System" "arraycopy" 5 + 11) ≤ M.2.2.2.2.locals)
    (kk : sd_J G X Q M pc' lo st (sd_F (cpD h e0 sp e1 dp n))) : sd_J G X Q M pc lo (.int n :: .int dp :: .ref (G.1 + e1) :: .int sp :: .ref (G.1 + e0) :: st) (sd_F h) := fun hB H locs ls hH hS hl hf => by
  subst hp
  have hts := hB.2.2.2.2.2.1
  have eR := hB.2.2.2.2.2.2.2.2.1
  obtain ⟨k1, k2, k3, k4, k5⟩ := acOK_of hk
  have hset : (sd_W G (sd_F h)).set e1 (G.1 + e1, .inl (G.2.2.2.1 101, n1, .inr (.inr (.inr (.inl (va_cpy (h.2.1 e0) (h.2.1 e1) sp.toNatClampNeg dp.toNatClampNeg n.toNatClampNeg)))))) = sd_W G (sd_F (cpD h e0 sp e1 dp n)) := by
    refine sd_W_set G (g := sd_F (cpD h e0 sp e1 dp n)) rfl (sd_lt (h := h) p1 (by decide)) ?_ (fun q _ hq => sd_cel_ext G (fun _ => rfl) (fun j => ?_) (fun _ => rfl))
    · rw [sd_cel_a G _ p1 (by decide)]
      have : (sd_F (cpD h e0 sp e1 dp n)).2.2.1 e1 = va_cpy (h.2.1 e0) (h.2.1 e1) sp.toNatClampNeg dp.toNatClampNeg n.toNatClampNeg := by
        funext k
        show (if e1 = e1 then _ else _) = _
        rw [if_pos rfl]
      show (.inl (G.2.2.2.1 101, n1, .inr (.inr (.inr (.inl ((sd_F (cpD h e0 sp e1 dp n)).2.2.1 e1))))) : va_E) = _
      rw [this]
    · show (if q = e1 then va_cpy (h.2.1 e0) (h.2.1 e1) sp.toNatClampNeg dp.toNatClampNeg n.toNatClampNeg j else h.2.1 q j) = _
      rw [if_neg hq]
      rfl
  refine va_copyd hB.1 hB.2.1 (hB.2.2.2.1.trans hl.1.symm) hB.2.2.2.2.1 (hts _ hw.1) (hts _ hw.2.1) (hts _ hw.2.2.1) (hts _ hw.2.2.2) hB.2.2.2.2.2.2.2.2.2.1 hH.1 (sd_W_D G _) hS e0 e1 1 1 (sd_at_arr G p0 (by decide) (sd_lt (h := h) p0 (by decide))) (sd_at_arr G p1 (by decide) (sd_lt (h := h) p1 (by decide))) rfl rfl (by decide) k1 k2 k3 k4 k5 (fun _ _ => by rfl) (by rw [eR]; exact hr) (by rw [eR]; exact hl2) d (fun H1 locs1 hP1 _ hS1 T hT Xs => ?_)
  have hP2 : va_P (sd_dD G) sd_cls (sd_W G (sd_F (cpD h e0 sp e1 dp n))) H1 := hset ▸ hP1
  have hz := sd_size hB hH hS (g1 := sd_F (cpD h e0 sp e1 dp n)) rfl (show 0 < sd_NT by decide) hP2 hT Xs
  exact kk hB H1 locs1 ls (hH.to (g := sd_F (cpD h e0 sp e1 dp n)) rfl hz hP2) hS1 hl hf T hT Xs
theorem sF_copyi {idx e0 e1 n0 n1 : Nat} {sp dp n : Int32} (d : decode M.2.1 pc = .ok (.invokestatic idx, 3)) (hp : pc + 3 = pc') (hw : sd_ac M.1.cls idx) (p0 : sd_SH e0 = (100, n0)) (p1 : sd_SH e1 = (100, n1)) (hk : acOK sp dp n n0 n1 = true) (hr : 1 ≤ M.2.2.2.2.frames) (hl2 : (st.map fun v => v.category).sum + (nativeFrameWords "java/lang/System" "arraycopy" 5 + 11) ≤ M.2.2.2.2.locals)
    (kk : sd_J G X Q M pc' lo st (sd_F (cpI h e0 sp e1 dp n))) : sd_J G X Q M pc lo (.int n :: .int dp :: .ref (G.1 + e1) :: .int sp :: .ref (G.1 + e0) :: st) (sd_F h) := fun hB H locs ls hH hS hl hf => by
  subst hp
  have hts := hB.2.2.2.2.2.1
  have eR := hB.2.2.2.2.2.2.2.2.1
  obtain ⟨k1, k2, k3, k4, k5⟩ := acOK_of hk
  have hset : (sd_W G (sd_F h)).set e1 (G.1 + e1, .inl (G.2.2.2.1 100, n1, .inl (va_cpy (h.1 e0) (h.1 e1) sp.toNatClampNeg dp.toNatClampNeg n.toNatClampNeg))) = sd_W G (sd_F (cpI h e0 sp e1 dp n)) := by
    refine sd_W_set G (g := sd_F (cpI h e0 sp e1 dp n)) rfl (sd_lt (h := h) p1 (by decide)) ?_ (fun q _ hq => sd_cel_ext G (fun j => ?_) (fun _ => rfl) (fun _ => rfl))
    · rw [sd_cel_a G _ p1 (by decide)]
      have : (sd_F (cpI h e0 sp e1 dp n)).2.1 e1 = va_cpy (h.1 e0) (h.1 e1) sp.toNatClampNeg dp.toNatClampNeg n.toNatClampNeg := by
        funext k
        show (if e1 = e1 then _ else _) = _
        rw [if_pos rfl]
      show (.inl (G.2.2.2.1 100, n1, .inl ((sd_F (cpI h e0 sp e1 dp n)).2.1 e1)) : va_E) = _
      rw [this]
    · show (if q = e1 then va_cpy (h.1 e0) (h.1 e1) sp.toNatClampNeg dp.toNatClampNeg n.toNatClampNeg j else h.1 q j) = _
      rw [if_neg hq]
      rfl
  refine va_copyi hB.1 hB.2.1 (hB.2.2.2.1.trans hl.1.symm) hB.2.2.2.2.1 (hts _ hw.1) (hts _ hw.2.1) (hts _ hw.2.2.1) (hts _ hw.2.2.2) hB.2.2.2.2.2.2.2.2.2.1 hH.1 (sd_W_D G _) hS e0 e1 0 0 (sd_at_arr G p0 (by decide) (sd_lt (h := h) p0 (by decide))) (sd_at_arr G p1 (by decide) (sd_lt (h := h) p1 (by decide))) rfl rfl (by decide) k1 k2 k3 k4 k5 (fun _ _ => by rfl) (by rw [eR]; exact hr) (by rw [eR]; exact hl2) d (fun H1 locs1 hP1 _ hS1 T hT Xs => ?_)
  have hP2 : va_P (sd_dD G) sd_cls (sd_W G (sd_F (cpI h e0 sp e1 dp n))) H1 := hset ▸ hP1
  have hz := sd_size hB hH hS (g1 := sd_F (cpI h e0 sp e1 dp n)) rfl (show 0 < sd_NT by decide) hP2 hT Xs
  exact kk hB H1 locs1 ls (hH.to (g := sd_F (cpI h e0 sp e1 dp n)) rfl hz hP2) hS1 hl hf T hT Xs
section SV
variable {M' : sd_MX} {st0 : List Value} {g : sd_H}
theorem sF_callV {idx b : Nat} {As : List Value} {ci nn : Nat} {v : Value} (n : Nat) (hR : sd_RunF G M' (.ref (G.1 + b) :: As) h (some v) g) (d : decode M.2.1 pc = .ok (.invokevirtual idx, 3)) (hm : sd_mV M' n) (hlk : Cond.methodLink M.1.cls idx M'.1 ∈ sd_tb) (hrm : sd_rm M M') (hn : As.length = n) (hst : st0 = As.reverse ++ .ref (G.1 + b) :: st) (hw : (st.map fun v => v.category).sum ≤ 8)
    (hs : sd_SH b = (ci, nn)) (hnn : (sd_C ci).2.2 = nn) (hci : ci < 13) (hcc : (sd_C ci).1 = M'.1.cls) (hp : pc + 3 = pc') (kk : sd_J G X Q M pc' lo (v :: st) (sd_F g)) : sd_J G X Q M pc lo st0 (sd_F h) := by
  subst hnn
  exact sd_callV (o := (some v, sd_F g)) n hR d hm hlk hrm hn hst hw hs hci hcc (sd_lt hs (by omega)) (fun q => q) hp kk
theorem sF_callV0 {idx b : Nat} {As : List Value} {ci nn : Nat} (n : Nat) (hR : sd_RunF G M' (.ref (G.1 + b) :: As) h none g) (d : decode M.2.1 pc = .ok (.invokevirtual idx, 3)) (hm : sd_mV M' n) (hlk : Cond.methodLink M.1.cls idx M'.1 ∈ sd_tb) (hrm : sd_rm M M') (hn : As.length = n) (hst : st0 = As.reverse ++ .ref (G.1 + b) :: st) (hw : (st.map fun v => v.category).sum ≤ 8)
    (hs : sd_SH b = (ci, nn)) (hnn : (sd_C ci).2.2 = nn) (hci : ci < 13) (hcc : (sd_C ci).1 = M'.1.cls) (hp : pc + 3 = pc') (kk : sd_J G X Q M pc' lo st (sd_F g)) : sd_J G X Q M pc lo st0 (sd_F h) := by
  subst hnn
  exact sd_callV (o := (none, sd_F g)) n hR d hm hlk hrm hn hst hw hs hci hcc (sd_lt hs (by omega)) (fun q => q) hp kk
theorem sF_callS {idx : Nat} {As : List Value} {v : Value} (n : Nat) (hR : sd_RunF G M' As h (some v) g) (d : decode M.2.1 pc = .ok (.invokestatic idx, 3)) (hm : sd_mS M' n) (hlk : Cond.methodLink M.1.cls idx M'.1 ∈ sd_tb) (hrm : sd_rm M M') (hn : As.length = n) (hst : st0 = As.reverse ++ st) (hw : (st.map fun v => v.category).sum ≤ 8)
    (hp : pc + 3 = pc') (kk : sd_J G X Q M pc' lo (v :: st) (sd_F g)) : sd_J G X Q M pc lo st0 (sd_F h) := sd_callS (o := (some v, sd_F g)) n hR d hm hlk hrm hn hst hw (fun q => q) hp kk
theorem sF_callSN {idx : Nat} {As : List Value} {v : Value} {host : String} (n : Nat) (hR : sd_RunF G M' As h (some v) g) (d : decode M.2.1 pc = .ok (.invokestatic idx, 3)) (hm : sd_mS M' n) (hlk : Cond.methodLinkNest M.1.cls idx M'.1 host ∈ lw_tbl) (hrm : sd_rm M M') (hn : As.length = n) (hst : st0 = As.reverse ++ st) (hw : (st.map fun v => v.category).sum ≤ 8)
    (hp : pc + 3 = pc') (kk : sd_J G X Q M pc' lo (v :: st) (sd_F g)) : sd_J G X Q M pc lo st0 (sd_F h) := sd_callSN (o := (some v, sd_F g)) n hR d hm hlk hrm hn hst hw (fun q => q) hp kk
end SV
end SM

def iushr (x y : Int32) : Int32 := (x.toUInt32 >>> (y.toUInt32 &&& Int32.toUInt32 31)).toInt32
def lshl (x : Int64) (y : Int32) : Int64 := x <<< (y.toInt64 &&& 63)
def i2s (x : Int32) : Int32 := x.toInt16.toInt32
/-- the texts: how long, which sign -/
def slen (j : Nat) : Int32 := nI (sd_len.getD j 0)
def schr (j : Nat) (i : Int32) : Int32 := (sd_byt.getD j []).getD i.toNatClampNeg 0
section SN
variable {G : sd_GX} {X : sd_CX} {Q : State → Prop} {M : sd_MX} {pc pc' : Nat} {lo : List (Nat × Value)} {st : List Value} {h : sd_H}
theorem sF_grN {idx ci k e n r : Nat} {host : String} (d : sd_d M pc (.getfield idx) 3 pc') (hw : Cond.fieldLinkNest M.1.cls idx ((sd_C ci).2.1 k).1 ((sd_C ci).2.1 k).2.1 ((sd_C ci).2.1 k).2.2.1 host ∈ lw_tbl) (hci : ci < 13) (hk : k < (sd_C ci).2.2) (hf : sd_FT ci k = 2) (hn : (sd_C ci).2.2 = n) (pe : sd_SH e = (ci, n)) (hm : ci ≠ 7) (hr : sd_RT e k = some r) (kk : sd_J G X Q M pc' lo (.ref (G.1 + r) :: st) (sd_F h)) : sd_J G X Q M pc lo (.ref (G.1 + e) :: st) (sd_F h) := fun hB H locs ls hH hS hl hfi => by
  subst hn
  obtain ⟨d, rfl⟩ := d
  have hc := sd_lt (h := h) pe (by omega)
  have he := sd_W_at G hc
  rw [sd_cel_o G _ pe (by omega)] at he
  have hv : sd_fv G.1 (sd_F h) ci e k = .ref (G.1 + r) := by
    unfold sd_fv
    rw [if_pos hf, sF_R (h := h) pe hm hr]
    rfl
  exact va_getN hB.1 hB.2.1 hB.2.2.2.2.2.1 (sd_in hci) hB.2.2.2.2.1 hB.2.2.2.2.2.2.2.2.2.1 hH.1 e he (sd_clsAt hci) k hk ((hB.2.2.2.2.2.2.2.2.2.2.2.2.2.2.2 _ hw rfl).use rfl) (fun _ q => q) (v := .ref (G.1 + r)) (by rw [List.getElem?_map, List.getElem?_range hk]; exact congrArg some hv) d (kk hB H locs ls hH hS hl hfi)
theorem sd_ldcwS {p : Program} {l : Launch} {e : Env} {R : Room} {s : State} {m : MethodId} {args : Array Value} {below : List Frame} {meth : Method} {c : Code} {T : State} {locs : List Loc} {cells slots : Nat}
    (X : Stand p l e R s m args below meth c T locs cells slots) (hexec : p.tables.exec = Jvm.exec) {own text : String} {index : Nat} {a : Addr} (hown : s.vm.findClass own = some m.cls)
    (hconst : (Cond.stringRef own index text).before args s = true) (hev : (Term.string own index).eval args s none [] s = some (.ref a)) {g : JFrame} (hg : g.method = m) (hdg : decode c.code g.pc = .ok (.ldc_w index, 3)) :
    ∀ target, Steps p.tables e below (T.setTop { g with pc := g.pc + 3, stack := .ref a :: g.stack }) target → Steps p.tables e below (T.setTop g) target := by
  obtain ⟨k, cf, i, a', hk, hcf, hcp, -, hr, hev'⟩ := Cond.stringRef_spec hown hconst
  cases hev.symm.trans hev'
  obtain ⟨k', hk', he⟩ := X.warmed.alike.2.2 _ _ hk
  have hr' : k'.resolved[index]? = some (some (.string a)) := by
    rcases X.warmed.entry hk hk' index with h | ⟨h, -⟩
    · rw [h]; exact hr
    · rw [hr] at h; cases h
  intro target hrest
  subst hg
  jvm_step X.here [hexec, hdg, ldc_w.wp_string (e := e) (s := T) (f := g) X.here.top hk' (by rw [he]; exact hcf) hcp hr']
  exact hrest
theorem sF_ldcS {idx j : Nat} (d : sd_d M pc (.ldc_w idx) 3 pc') (hc : M.1.cls = RX11) (hi : idx = 439 + 2 * j) (hj : j < 13) (kk : sd_J G X Q M pc' lo (.ref (G.2.2.2.2.1 j) :: st) (sd_F h)) : sd_J G X Q M pc lo st (sd_F h) := fun hB H locs ls hH hS hl hf => by
  obtain ⟨d, rfl⟩ := d
  subst hi
  have hZ := hB.2.2.2.2.2.2.2.2.2.2.2.2.2.2.1 j hj
  have k2 := kk hB H locs ls hH hS hl hf
  intro T hT Xs
  obtain ⟨t, a1, b1⟩ := k2 T hT Xs
  exact ⟨t, sd_ldcwS Xs hB.1 (own := RX11) (by rw [← hc]; exact hB.2.2.2.2.1) (text := sd_tx.getD j "") hZ.1 hZ.2 (g := F0 _ pc ls st) rfl (by rw [hB.2.1]; exact d) t a1, b1⟩
end SN

