/-! ===== pure: small rows of the printed functions ===== -/
theorem gd_t {β : Type} (k : Option β) : gd true k = k := rfl
theorem gd_h {β : Type} {b : Bool} {k : Option β} (h : b = true) : gd b k = k := by rw [h]; rfl
theorem b1_s {α β : Type} (a : α) (k : α → Option β) : b1 (some a) k = k a := rfl
theorem b2_s {α β : Type} (g : sd_H) (a : α) (k : sd_H → α → Option β) : b2 (some (g, a)) k = k g a := rfl
theorem hb_s {β : Type} (g : sd_H) (k : sd_H → Option β) : hb g k = k g := rfl
theorem FU_s : FU = 99999 + 1 := rfl
theorem sd_isB_0 : sd_isB 0 = true := rfl
theorem sd_isB_1 : sd_isB 1 = true := rfl
theorem lit (n : Nat) : (OfNat.ofNat n : Int32) = nI n := rfl
theorem nI_eqI {a b : Nat} (ha : a < 2 ^ 31) (hb : b < 2 ^ 31) : (nI a = nI b) = (a = b) := propext (nI_eq ha hb)
theorem inB_n {k n : Nat} (h : k < n) (hn : n < 2 ^ 31) : sd_inB (nI k) n = true := by
  unfold sd_inB
  rw [nI_clamp (by omega), Bool.and_eq_true, decide_eq_true_eq, decide_eq_true_eq]
  exact ⟨nI_pos (by omega), h⟩
theorem n0lt {k : Nat} (h : k < 2 ^ 31) : (nI k < 0) = False := eq_false (nI_pos h)
theorem n0le {k : Nat} (h : k < 2 ^ 31) : ((0 : Int32) ≤ nI k) = True := eq_true (nI_pos' h)
theorem n0eq {k : Nat} (h : k < 2 ^ 31) : (nI k = 0) = (k = 0) := propext ⟨fun q => (nI_eq h (by omega)).mp (q.trans nI_0.symm), fun q => by rw [q]; rfl⟩
theorem n1eq {k : Nat} (h : k < 2 ^ 31) : (nI k = 1) = (k = 1) := propext ⟨fun q => (nI_eq h (by omega)).mp (q.trans (lit 1)), fun q => by rw [q]; rfl⟩
theorem nle0 {k : Nat} (h : k < 2 ^ 31) : (nI k ≤ 0) = (k = 0) := propext ⟨fun q => by
  have := (nI_leI h (by omega : 0 < 2 ^ 31)).mp (by rw [nI_0]; exact q)
  omega, fun q => by rw [q]; decide⟩
theorem nlt0 {k : Nat} (h : k < 2 ^ 31) : ((0 : Int32) < nI k) = (0 < k) := propext ⟨fun q => (nI_ltI (by omega : 0 < 2 ^ 31) h).mp (by rw [nI_0]; exact q), fun q => by
  rw [← nI_0]
  exact (nI_ltI (by omega) h).mpr q⟩
theorem nI_m1 {k : Nat} (h : 1 ≤ k) : nI k - 1 = nI (k - 1) := by
  obtain ⟨j, rfl⟩ : ∃ j, k = j + 1 := ⟨k - 1, by omega⟩
  rw [nI_pred]
  rfl
theorem nI_1a (k : Nat) : (1 : Int32) + nI k = nI (1 + k) := by rw [lit 1, nI_add]
theorem m1_ti : ((-1 : Int32)).toInt = -1 := by decide
theorem nI_ne_m1 {k : Nat} (h : k < 2 ^ 31) : (nI k = -1) = False := eq_false fun q => by
  have := congrArg Int32.toInt q
  rw [nI_toInt h, m1_ti] at this
  omega
theorem m1_ne_nI {k : Nat} (h : k < 2 ^ 31) : (-1 = nI k) = False := eq_false fun q => by
  have := congrArg Int32.toInt q
  rw [nI_toInt h, m1_ti] at this
  omega
theorem nI_nle0 {k : Nat} (h : k < 2 ^ 31) : (nI k ≤ -1) = False := eq_false fun q => by
  have := Int32.le_iff_toInt_le.mp q
  rw [nI_toInt h, m1_ti] at this
  omega
theorem nI_nlt0 {k : Nat} (h : k < 2 ^ 31) : (nI k < -1) = False := eq_false fun q => by
  have := Int32.lt_iff_toInt_lt.mp q
  rw [nI_toInt h, m1_ti] at this
  omega
/-- within -/
def wn (a b c : Int32) : Int32 := if a < b then 0 else if c < a then 0 else 1
theorem XT_within_e (a b c : Int32) : XT_within a b c = some (wn a b c) := by
  unfold XT_within wn
  split
  · rfl
  · split <;> rfl
theorem YM_in_e (a b c : Int32) : YM_in a b c = some (wn a b c) := by
  unfold YM_in wn
  split
  · rfl
  · split <;> rfl
theorem wn_B (a b c : Int32) : sd_isB (wn a b c) = true := by
  unfold wn
  split
  · rfl
  · split <;> rfl
theorem XT_isRow_e (a : Int32) : XT_isRow a = some (wn a 0 5) := by
  unfold XT_isRow
  rw [XT_within_e, b1_s, gd_h (wn_B _ _ _)]
theorem YM_isRow_e (a : Int32) : YM_isRow a = some (wn a 0 5) := by
  unfold YM_isRow
  rw [YM_in_e, b1_s, gd_h (wn_B _ _ _)]
theorem wn_c (a : Int32) (m : Nat) (hm : m < 2 ^ 31) : wn a 0 (nI m) = 0 ∨ ∃ k, k ≤ m ∧ a = nI k ∧ wn a 0 (nI m) = 1 := by
  unfold wn
  by_cases h0 : a < 0
  · exact Or.inl (if_pos h0)
  · obtain ⟨k, hk, rfl⟩ := nI_of h0
    by_cases h1 : nI m < nI k
    · exact Or.inl (by rw [if_neg h0, if_pos h1])
    · refine Or.inr ⟨k, ?_, rfl, by rw [if_neg h0, if_neg h1]⟩
      rw [nI_ltI hm hk] at h1
      omega
theorem wn_01 (a b c : Int32) : wn a b c = 0 ∨ wn a b c = 1 := by
  unfold wn
  split
  · exact Or.inl rfl
  · split
    · exact Or.inl rfl
    · exact Or.inr rfl
theorem wn_n {k m : Nat} (h : k ≤ m) (hm : m < 2 ^ 31) : wn (nI k) 0 (nI m) = 1 := by
  unfold wn
  rw [if_neg (nI_pos (by omega)), if_neg (by rw [nI_ltI hm (by omega)]; omega)]
theorem z10 : ((1 : Int32) = 0) = False := by decide
theorem z00 : ((0 : Int32) = 0) = True := by decide
/-! ===== reading behind writing ===== -/
theorem wI_i (h : sd_H) (c k : Nat) (v : Int32) (c' k' : Nat) : (wI h c k v).1 c' k' = if c' = c ∧ k' = k then v else h.1 c' k' := rfl
theorem wI_d (h : sd_H) (c k : Nat) (v : Int32) : (wI h c k v).2.1 = h.2.1 := rfl
theorem wD_i (h : sd_H) (c k : Nat) (v : UInt64) : (wD h c k v).1 = h.1 := rfl
theorem wD_d (h : sd_H) (c k : Nat) (v : UInt64) (c' k' : Nat) : (wD h c k v).2.1 c' k' = if c' = c ∧ k' = k then v else h.2.1 c' k' := rfl
/-- places lo to hi less 1 of a cell hold v -/
def fI (h : sd_H) (c lo hi : Nat) (v : Int32) : sd_H := (fun c' k' => if c' = c ∧ lo ≤ k' ∧ k' < hi then v else h.1 c' k', h.2)
def fD (h : sd_H) (c lo hi : Nat) (v : UInt64) : sd_H := (h.1, fun c' k' => if c' = c ∧ lo ≤ k' ∧ k' < hi then v else h.2.1 c' k', h.2.2)
theorem fI_i (h : sd_H) (c lo hi : Nat) (v : Int32) (c' k' : Nat) : (fI h c lo hi v).1 c' k' = if c' = c ∧ lo ≤ k' ∧ k' < hi then v else h.1 c' k' := rfl
theorem fI_d (h : sd_H) (c lo hi : Nat) (v : Int32) : (fI h c lo hi v).2.1 = h.2.1 := rfl
theorem fD_i (h : sd_H) (c lo hi : Nat) (v : UInt64) : (fD h c lo hi v).1 = h.1 := rfl
theorem fD_d (h : sd_H) (c lo hi : Nat) (v : UInt64) (c' k' : Nat) : (fD h c lo hi v).2.1 c' k' = if c' = c ∧ lo ≤ k' ∧ k' < hi then v else h.2.1 c' k' := rfl
theorem fI_nil (h : sd_H) {c lo hi : Nat} (v : Int32) (hh : hi ≤ lo) : fI h c lo hi v = h := by
  unfold fI
  refine Prod.ext (funext fun c' => funext fun k' => ?_) rfl
  show (if c' = c ∧ lo ≤ k' ∧ k' < hi then v else h.1 c' k') = _
  rw [if_neg (by omega)]
theorem fD_nil (h : sd_H) {c lo hi : Nat} (v : UInt64) (hh : hi ≤ lo) : fD h c lo hi v = h := by
  unfold fD
  refine Prod.ext rfl (Prod.ext (funext fun c' => funext fun k' => ?_) rfl)
  show (if c' = c ∧ lo ≤ k' ∧ k' < hi then v else h.2.1 c' k') = _
  rw [if_neg (by omega)]
/-- a heap as its parts -/
theorem H_ext {h g : sd_H} (h1 : ∀ c k, h.1 c k = g.1 c k) (h2 : ∀ c k, h.2.1 c k = g.2.1 c k) (h3 : h.2.2 = g.2.2) : h = g := Prod.ext (funext fun c => funext fun k => h1 c k) (Prod.ext (funext fun c => funext fun k => h2 c k) h3)
