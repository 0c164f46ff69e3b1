def sd_z : sd_HX := (0, fun _ _ => 0, fun _ _ => 0, fun _ _ => none)
def sd_isR (c k : Nat) : Bool := if (sd_SH c).1 < 100 then sd_FT (sd_SH c).1 k == 2 else decide (103 ≤ (sd_SH c).1)
def sd_mk (h : sd_HX) : sd_H := (h.2.1, h.2.2.1, fun _ => none)
def sd_agr (h : sd_HX) : Bool := decide (h.1 = sd_NT) && (List.range sd_NT).all (fun c => (List.range (sd_SH c).2).all (fun k => !sd_isR c k || decide (h.2.2.2 c k = (sd_F (sd_mk h)).2.2.2 c k)))
/-- what the heap holds behind the constructors: (cell, slot, value) -/
def sd_i0 : List (Nat × Nat × Int32) := [(2, 0, -1), (2, 1, -1), (2, 2, -1), (2, 3, -1), (2, 4, -1), (2, 5, -1), (127, 0, -1), (127, 1, -1), (127, 2, -1), (127, 3, -1), (127, 4, -1), (127, 5, -1), (3, 0, 0), (3, 1, 0), (3, 2, 0), (3, 3, 0), (3, 4, 0), (3, 5, 0), (128, 0, 0), (128, 1, 0), (128, 2, 0), (128, 3, 0), (128, 4, 0), (128, 5, 0), (6, 1, 0), (6, 2, 0), (126, 6, 0), (126, 7, 0), (33, 1, 0), (33, 2, 0), (126, 18, 0), (0, 15, 0), (126, 20, 0), (0, 16, 0), (126, 4, 0), (107, 2, 0), (107, 3, 0), (126, 34, 0), (126, 37, 0), (108, 0, 0), (108, 1, 0), (108, 2, 0), (150, 0, 0), (150, 1, 0), (150, 2, 0), (56, 5, 1)]
def sd_ini (h : sd_HX) : Bool := sd_i0.all (fun q => decide (h.2.1 q.1 q.2.1 = q.2.2)) && (List.range 144).all (fun k => decide (h.2.2.1 4 k = 0) && decide (h.2.2.1 129 k = 0))
/-- the law's first two acts -/
def sd_c1 : Option sd_HX := gd (okN sd_z sd_z M_LW 11 17) (b1 (XT_init (nw sd_z) 0) (fun h => gd (okL sd_z h M_LW) (some h)))
def sd_c2 (h : sd_HX) : Option sd_HX := gd (okN sd_z h M_LW 12 47) (gd (decide (h.1 = 126)) (b1 (YM_init (nw h) 126) (fun h => gd (okL sd_z h M_LW) (some h))))
def sd_c3 : Option sd_HX := b1 sd_c1 sd_c2
set_option maxRecDepth 100000 in
theorem sd_c3_ok : (match sd_c3 with | some h => sd_agr h && sd_ini h | none => false) = true := by decide +kernel
theorem arrV_ext {c : ClassId} {n : Nat} {f g : Nat → Value} (h : ∀ j, j < n → f j = g j) : arrV c n f = arrV c n g := by
  unfold arrV
  congr 1
  apply Array.ext
  · simp
  · intro i h1 h2
    simp only [Array.getElem_ofFn]
    exact h i (by simpa using h1)
theorem sd_HR_F {G : sd_GX} {h : sd_HX} {H : Heap} (ha : sd_agr h = true) (hH : sd_HR G h H) : sd_HR G (sd_F (sd_mk h)) H := by
  unfold sd_agr at ha
  rw [Bool.and_eq_true, decide_eq_true_eq, List.all_eq_true] at ha
  obtain ⟨hn, ha⟩ := ha
  have hag : ∀ c, c < sd_NT → ∀ k, k < (sd_SH c).2 → sd_isR c k = true → h.2.2.2 c k = (sd_F (sd_mk h)).2.2.2 c k := by
    intro c hc k hk hr
    have h1 := ha c (List.mem_range.mpr hc)
    rw [List.all_eq_true] at h1
    have h2 := h1 k (List.mem_range.mpr hk)
    rw [hr, Bool.not_true, Bool.false_or, decide_eq_true_eq] at h2
    exact h2
  refine ⟨fun k q hk => ?_, by rw [hH.2.1, hn]; rfl, Nat.le_refl _⟩
  by_cases hc : k < sd_NT
  · rw [sd_W_at G (h := sd_F (sd_mk h)) hc] at hk
    cases hk
    have h0 := hH.1 k _ (sd_W_at G (h := h) (hn ▸ hc))
    by_cases ht : (sd_SH k).1 < 100
    · rw [sd_cel_o G h (c := k) (ci := (sd_SH k).1) (n := (sd_SH k).2) rfl ht] at h0
      rw [sd_cel_o G _ (c := k) (ci := (sd_SH k).1) (n := (sd_SH k).2) rfl ht]
      have e : (List.range (sd_SH k).2).map (fun j => sd_fv G.1 h (sd_SH k).1 k j) = (List.range (sd_SH k).2).map (fun j => sd_fv G.1 (sd_F (sd_mk h)) (sd_SH k).1 k j) := by
        apply List.map_congr_left
        intro j hj
        unfold sd_fv
        by_cases q : sd_FT (sd_SH k).1 j = 2
        · rw [if_pos q, if_pos q, hag k hc j (List.mem_range.mp hj) (by unfold sd_isR; rw [if_pos ht, q]; rfl)]
        · rw [if_neg q, if_neg q]; rfl
      rw [← e]
      exact h0
    · rw [sd_cel_a G h (c := k) (t := (sd_SH k).1) (n := (sd_SH k).2) rfl ht] at h0
      rw [sd_cel_a G _ (c := k) (t := (sd_SH k).1) (n := (sd_SH k).2) rfl ht]
      unfold sd_arr at h0 ⊢
      by_cases q1 : (sd_SH k).1 = 101
      · rw [if_pos q1] at h0 ⊢
        exact h0
      · rw [if_neg q1] at h0 ⊢
        by_cases q2 : (sd_SH k).1 < 103
        · rw [if_pos q2] at h0 ⊢
          exact h0
        · rw [if_neg q2] at h0 ⊢
          have h1 : H[G.1 + k]? = some (vp_cell _ ((sd_SH k).2, .inr (.inr (.inr (.inr (fun j => (h.2.2.2 k j).map (fun a => G.1 + a))))))) := h0
          show H[G.1 + k]? = some (vp_cell _ ((sd_SH k).2, .inr (.inr (.inr (.inr (fun j => ((sd_F (sd_mk h)).2.2.2 k j).map (fun a => G.1 + a)))))))
          rw [h1, vp_cell_q, vp_cell_q]
          refine congrArg some (arrV_ext (fun j hj => ?_))
          rw [hag k hc j hj (by unfold sd_isR; rw [if_neg ht]; exact decide_eq_true (by omega))]
  · rw [sd_W_no G (show (sd_F (sd_mk h)).1 ≤ k from Nat.le_of_not_lt hc)] at hk
    cases hk
theorem sd_J_F {G : sd_GX} {X : sd_CX} {Q : State → Prop} {M : sd_MX} {pc : Nat} {lo : List (Nat × Value)} {st : List Value} {h : sd_HX} (ha : sd_agr h = true) (k : sd_J G X Q M pc lo st (sd_F (sd_mk h))) : sd_J G X Q M pc lo st h := fun hB H locs ls hH hS hl hf => by
  have hn : h.1 = sd_NT := by
    unfold sd_agr at ha
    rw [Bool.and_eq_true, decide_eq_true_eq] at ha
    exact ha.1
  have e1 : sd_kc G X h = sd_kc G X (sd_F (sd_mk h)) := by unfold sd_kc; rw [hn]; rfl
  have e2 : sd_ks G X h = sd_ks G X (sd_F (sd_mk h)) := by unfold sd_ks; rw [hn]; rfl
  rw [e1, e2]
  exact k hB H locs ls (sd_HR_F ha hH) hS hl (by unfold sd_fit at hf ⊢; rw [← e1, ← e2]; exact hf)

