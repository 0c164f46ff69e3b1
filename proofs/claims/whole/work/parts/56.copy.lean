/-! ===== copy ===== -/
theorem lN_big {n : Nat} (h : n < 2 ^ 40) : (lN n).toInt = (n : Int) := by
  unfold lN
  rw [Int64.toInt_ofNat_of_lt (by omega)]
theorem lgp {a b : Nat} (ha : a < 2 ^ 40) (hb : b < 2 ^ 40) : ((0 : Int32) < lg_cmp (lN a) (lN b)) = (b < a) := by
  unfold lg_cmp
  have e : (lN a > lN b) = (b < a) := by
    rw [gt_iff_lt, Int64.lt_iff_toInt_lt, lN_big ha, lN_big hb]
    exact propext (by omega)
  by_cases c : b < a
  · rw [if_pos (by rw [e]; exact c)]
    exact propext ⟨fun _ => c, fun _ => by decide⟩
  · rw [if_neg (by rw [e]; exact c)]
    refine propext ⟨fun q => ?_, fun q => absurd q c⟩
    split at q <;> exact absurd q (by decide)
theorem lgn {a b : Nat} (ha : a < 2 ^ 40) (hb : b < 2 ^ 40) : (lg_cmp (lN a) (lN b) ≤ 0) = (a ≤ b) := by
  have := lgp ha hb
  refine propext ⟨fun q => ?_, fun q => ?_⟩
  · refine Nat.not_lt.mp fun z => ?_
    rw [← this] at z
    exact absurd q (Int32.not_le.mpr z)
  · refine Int32.not_lt.mp fun z => ?_
    rw [this] at z
    omega
theorem XR_hasCells_01 {g : sd_H} {P r z : Nat} (hr : r < 6) (hz : z ≤ 24) (e : g.1 (P + 2) r = nI z) (a b : Int32) :
    (XR_hasCells g P (nI r) a b = some 0 ∧ (a < 0 ∨ b < 0 ∨ ∃ i n, i < 2 ^ 31 ∧ n < 2 ^ 31 ∧ a = nI i ∧ b = nI n ∧ z < i + n)) ∨
    ∃ i n, a = nI i ∧ b = nI n ∧ i + n ≤ z ∧ XR_hasCells g P (nI r) a b = some 1 := by
  unfold XR_hasCells
  by_cases ha : a < 0
  · exact Or.inl ⟨if_pos ha, Or.inl ha⟩
  by_cases hb : b < 0
  · exact Or.inl ⟨by rw [if_neg ha, if_pos hb], Or.inr (Or.inl hb)⟩
  obtain ⟨i, hi, rfl⟩ := nI_of ha
  obtain ⟨n, hn, rfl⟩ := nI_of hb
  rw [if_neg ha, if_neg hb, inB_n hr (by omega), gd_t, nI_clamp (by omega), e]
  have t : (nI z - nI n).toInt = (z : Int) - n := by
    rw [Int32.toInt_sub, nI_toInt (by omega), nI_toInt hn]
    refine Int.bmod_eq_of_le ?_ ?_ <;> omega
  have l : (nI z - nI n < nI i) = (z < i + n) := by
    rw [Int32.lt_iff_toInt_lt, t, nI_toInt hi]
    exact propext (by omega)
  by_cases c : z < i + n
  · exact Or.inl ⟨if_pos (by rw [l]; exact c), Or.inr (Or.inr ⟨i, n, hi, hn, rfl, rfl, c⟩)⟩
  · exact Or.inr ⟨i, n, rfl, rfl, by omega, if_neg (by rw [l]; exact c)⟩
theorem ybad {β : Type} (B L : Option β) {a1 a3 a4 : Int32} {z1 z2 : Nat} (h1 : z1 ≤ 24) (h2 : z2 ≤ 24)
    (h : (a1 < 0 ∨ a4 < 0 ∨ ∃ i n, i < 2 ^ 31 ∧ n < 2 ^ 31 ∧ a1 = nI i ∧ a4 = nI n ∧ z1 < i + n) ∨ (a3 < 0 ∨ a4 < 0 ∨ ∃ i n, i < 2 ^ 31 ∧ n < 2 ^ 31 ∧ a3 = nI i ∧ a4 = nI n ∧ z2 < i + n)) :
    (if a1 < 0 then B else if a3 < 0 then B else if a4 < 0 then B else if 0 < lg_cmp (Int32.toInt64 a1 + Int32.toInt64 a4) (Int32.toInt64 (nI z1)) then B else if lg_cmp (Int32.toInt64 a3 + Int32.toInt64 a4) (Int32.toInt64 (nI z2)) ≤ 0 then L else B) = B := by
  by_cases c1 : a1 < 0
  · exact if_pos c1
  by_cases c3 : a3 < 0
  · rw [if_neg c1, if_pos c3]
  by_cases c4 : a4 < 0
  · rw [if_neg c1, if_neg c3, if_pos c4]
  rw [if_neg c1, if_neg c3, if_neg c4]
  rcases h with h | h
  · obtain ⟨i, n, hi, hn, rfl, rfl, hz⟩ := (h.resolve_left c1).resolve_left c4
    rw [nI_l hi, nI_l hn, nI_l (by omega), lN_add, if_pos (by rw [lgp (by omega) (by omega)]; exact hz)]
  · obtain ⟨i, n, hi, hn, rfl, rfl, hz⟩ := (h.resolve_left c3).resolve_left c4
    split
    · rfl
    · rw [nI_l hi, nI_l hn, nI_l (by omega), lN_add, if_neg (by rw [lgn (by omega) (by omega)]; omega)]
theorem ygood {β : Type} (B L : Option β) {i j n z1 z2 : Nat} (h1 : z1 ≤ 24) (h2 : z2 ≤ 24) (hi : i + n ≤ z1) (hj : j + n ≤ z2) :
    (if nI i < 0 then B else if nI j < 0 then B else if nI n < 0 then B else if 0 < lg_cmp (Int32.toInt64 (nI i) + Int32.toInt64 (nI n)) (Int32.toInt64 (nI z1)) then B else if lg_cmp (Int32.toInt64 (nI j) + Int32.toInt64 (nI n)) (Int32.toInt64 (nI z2)) ≤ 0 then L else B) = L := by
  rw [if_neg (nI_pos (by omega)), if_neg (nI_pos (by omega)), if_neg (nI_pos (by omega)), nI_l (by omega), nI_l (by omega), nI_l (by omega), nI_l (by omega), nI_l (by omega), lN_add, lN_add,
    if_neg (by rw [lgp (by omega) (by omega)]; omega), if_pos (by rw [lgn (by omega) (by omega)]; omega)]
/-- places lo to lo + n of a doubles' cell out of a table -/
def mD (h : sd_H) (c lo n : Nat) (f : Nat → UInt64) : sd_H := (h.1, fun c' k => if c' = c ∧ lo ≤ k ∧ k < lo + n then f (k - lo) else h.2.1 c' k, h.2.2)
theorem mD_0 (h : sd_H) (c lo : Nat) (f : Nat → UInt64) : mD h c lo 0 f = h := by
  refine H_ext (fun _ _ => rfl) (fun c' k => ?_) rfl
  show (if c' = c ∧ lo ≤ k ∧ k < lo + 0 then f (k - lo) else h.2.1 c' k) = _
  rw [if_neg (by omega)]
theorem mD_st (h : sd_H) (c lo n : Nat) (f : Nat → UInt64) : wD (mD h c lo n f) c (lo + n) (f n) = mD h c lo (n + 1) f := by
  refine H_ext (fun _ _ => rfl) (fun c' k => ?_) rfl
  rw [wD_d]
  show (if c' = c ∧ k = lo + n then f n else if c' = c ∧ lo ≤ k ∧ k < lo + n then f (k - lo) else h.2.1 c' k) = (if c' = c ∧ lo ≤ k ∧ k < lo + (n + 1) then f (k - lo) else h.2.1 c' k)
  by_cases q : c' = c ∧ k = lo + n
  · rw [if_pos q, if_pos (by omega), q.2, Nat.add_sub_cancel_left]
  · rw [if_neg q]
    by_cases q2 : c' = c ∧ lo ≤ k ∧ k < lo + n
    · rw [if_pos q2, if_pos (by omega)]
    · rw [if_neg q2, if_neg (by omega)]
theorem mD_ne {h : sd_H} {c lo n : Nat} {f : Nat → UInt64} {c' : Nat} (q : ¬ c' = c) : (mD h c lo n f).2.1 c' = h.2.1 c' := funext fun k => if_neg fun z => q z.1
theorem mD_ns {h : sd_H} {c lo n : Nat} {f : Nat → UInt64} {c' k : Nat} (q : k < lo ∨ lo + n ≤ k) : (mD h c lo n f).2.1 c' k = h.2.1 c' k := if_neg fun z => by omega
theorem mD_eq {h : sd_H} {c lo n : Nat} {f : Nat → UInt64} {k : Nat} (q : lo ≤ k ∧ k < lo + n) : (mD h c lo n f).2.1 c k = f (k - lo) := if_pos ⟨rfl, q⟩
theorem mD_i {h : sd_H} {c lo n : Nat} {f : Nat → UInt64} : (mD h c lo n f).1 = h.1 := rfl
