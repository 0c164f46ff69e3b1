/-! ===== reading behind writing, by cells ===== -/
theorem wI_ne {h : sd_H} {c k : Nat} {v : Int32} {c' : Nat} (n : ¬ c' = c) : (wI h c k v).1 c' = h.1 c' := funext fun k' => by
  rw [wI_i, if_neg fun q => n q.1]
theorem wI_ns {h : sd_H} {c k : Nat} {v : Int32} {c' k' : Nat} (n : ¬ k' = k) : (wI h c k v).1 c' k' = h.1 c' k' := by
  rw [wI_i, if_neg fun q => n q.2]
theorem wI_eq {h : sd_H} {c k : Nat} {v : Int32} : (wI h c k v).1 c k = v := by
  rw [wI_i, if_pos ⟨rfl, rfl⟩]
theorem wD_ne {h : sd_H} {c k : Nat} {v : UInt64} {c' : Nat} (n : ¬ c' = c) : (wD h c k v).2.1 c' = h.2.1 c' := funext fun k' => by
  rw [wD_d, if_neg fun q => n q.1]
theorem wD_ns {h : sd_H} {c k : Nat} {v : UInt64} {c' k' : Nat} (n : ¬ k' = k) : (wD h c k v).2.1 c' k' = h.2.1 c' k' := by
  rw [wD_d, if_neg fun q => n q.2]
theorem wD_eq {h : sd_H} {c k : Nat} {v : UInt64} : (wD h c k v).2.1 c k = v := by
  rw [wD_d, if_pos ⟨rfl, rfl⟩]
theorem fI_ne {h : sd_H} {c lo hi : Nat} {v : Int32} {c' : Nat} (n : ¬ c' = c) : (fI h c lo hi v).1 c' = h.1 c' := funext fun k' => by
  rw [fI_i, if_neg fun q => n q.1]
theorem fI_ns {h : sd_H} {c lo hi : Nat} {v : Int32} {c' k' : Nat} (n : k' < lo ∨ hi ≤ k') : (fI h c lo hi v).1 c' k' = h.1 c' k' := by
  rw [fI_i, if_neg fun q => by omega]
theorem fI_eq {h : sd_H} {c lo hi : Nat} {v : Int32} {k' : Nat} (n : lo ≤ k' ∧ k' < hi) : (fI h c lo hi v).1 c k' = v := by
  rw [fI_i, if_pos ⟨rfl, n⟩]
theorem fD_ne {h : sd_H} {c lo hi : Nat} {v : UInt64} {c' : Nat} (n : ¬ c' = c) : (fD h c lo hi v).2.1 c' = h.2.1 c' := funext fun k' => by
  rw [fD_d, if_neg fun q => n q.1]
theorem fD_ns {h : sd_H} {c lo hi : Nat} {v : UInt64} {c' k' : Nat} (n : k' < lo ∨ hi ≤ k') : (fD h c lo hi v).2.1 c' k' = h.2.1 c' k' := by
  rw [fD_d, if_neg fun q => by omega]
theorem fD_eq {h : sd_H} {c lo hi : Nat} {v : UInt64} {k' : Nat} (n : lo ≤ k' ∧ k' < hi) : (fD h c lo hi v).2.1 c k' = v := by
  rw [fD_d, if_pos ⟨rfl, n⟩]
theorem fI_st {h : sd_H} {c lo hi : Nat} {v : Int32} (n : lo < hi) : fI (wI h c lo v) c (lo + 1) hi v = fI h c lo hi v := by
  refine H_ext (fun c' k' => ?_) (fun _ _ => rfl) rfl
  rw [fI_i, fI_i, wI_i]
  by_cases hC : c' = c ∧ lo ≤ k' ∧ k' < hi
  · rw [if_pos hC]
    split
    · rfl
    · rw [if_pos (by omega)]
  · rw [if_neg hC, if_neg (fun q => hC (by omega)), if_neg (fun q => hC (by omega))]
theorem fD_st {h : sd_H} {c lo hi : Nat} {v : UInt64} (n : lo < hi) : fD (wD h c lo v) c (lo + 1) hi v = fD h c lo hi v := by
  refine H_ext (fun _ _ => rfl) (fun c' k' => ?_) rfl
  rw [fD_d, fD_d, wD_d]
  by_cases hC : c' = c ∧ lo ≤ k' ∧ k' < hi
  · rw [if_pos hC]
    split
    · rfl
    · rw [if_pos (by omega)]
  · rw [if_neg hC, if_neg (fun q => hC (by omega)), if_neg (fun q => hC (by omega))]
theorem fD_wI {h : sd_H} {c lo hi : Nat} {v : UInt64} {c' k : Nat} {w : Int32} : fD (wI h c' k w) c lo hi v = wI (fD h c lo hi v) c' k w := rfl
theorem fI_wD {h : sd_H} {c lo hi : Nat} {v : Int32} {c' k : Nat} {w : UInt64} : fI (wD h c' k w) c lo hi v = wD (fI h c lo hi v) c' k w := rfl
theorem fD_fI {h : sd_H} {c lo hi : Nat} {v : UInt64} {c' lo' hi' : Nat} {w : Int32} : fD (fI h c' lo' hi' w) c lo hi v = fI (fD h c lo hi v) c' lo' hi' w := rfl
/-! ===== what stands between the calls ===== -/
/-- a cell's number: no NaN, no infinity, not -0.0, not above 2^33 -/
def okc (v : UInt64) : Prop := v.toNat % 2 ^ 63 ≤ 1056 * 2 ^ 52 ∧ ¬ v.toNat = 2 ^ 63
/-- the rows -/
def IR (fx zx : Nat → Int32) (cx : Nat → UInt64) (fm zm : Nat → Int32) (cm : Nat → UInt64) : Prop :=
  ∀ r, r < 6 → fx r = fm r ∧ ((fm r = -1 ∧ zx r = 0 ∧ ∀ i, i < 24 → cx (24 * r + i) = FP.dconst0) ∨
    ((∃ f, f ≤ 4 ∧ fm r = nI f) ∧ zx r = zm r ∧ ∀ i, i < 24 → cx (24 * r + i) = cm (24 * r + i)))
/-- the writers of rows that are there -/
def IW (fm wx wm : Nat → Int32) : Prop := ∀ r, r < 6 → ¬ fm r = -1 → ∀ i, i < 24 → wx (24 * r + i) = wm (24 * r + i)
def IZ (zm : Nat → Int32) : Prop := ∀ r, r < 6 → ∃ n, n ≤ 24 ∧ zm r = nI n
def IC (cm : Nat → UInt64) : Prop := ∀ a, a < 144 → okc (cm a)
/-- a reference of x and the model's -/
def IRef (x : Nat → Int32) (w : Nat) (t f b s : Int32) : Prop :=
  x 0 = t ∧ x 1 = f ∧ x 2 = b ∧ x 3 = s ∧ ((t = -1 ∧ ¬ w = 0) ∨ ∃ r, r < 6 ∧ t = nI r) ∧
  (-60 ≤ f.toInt ∧ f.toInt ≤ 60) ∧ (-6 ≤ b.toInt ∧ b.toInt ≤ 6) ∧ (-6 ≤ s.toInt ∧ s.toInt ≤ 6)
/-- a statement of x and the model's -/
def ISt (x : Nat → Int32) (o n p q m : Int32) : Prop :=
  x 1 = o ∧ x 2 = n ∧ x 3 = p ∧ x 4 = q ∧ x 5 = m ∧ (∃ k, k ≤ 12 ∧ o = nI k) ∧ (∃ k, 1 ≤ k ∧ k ≤ 5 ∧ n = nI k) ∧
  (∃ k, 1 ≤ k ∧ k ≤ 6 ∧ p = nI k) ∧ (∃ k, k ≤ 5 ∧ q = nI k) ∧ (m = -1 ∨ ∃ r, r < 6 ∧ m = nI r)
def ILk (g v : sd_H) (k : Nat) : Prop :=
  ISt (g.1 (8 + 5 * k)) (v.1 132 k) (v.1 133 k) (v.1 134 k) (v.1 135 k) (v.1 136 k) ∧
  ∀ w, w < 3 → IRef (g.1 (10 + 5 * k + w)) w (v.1 137 (3 * k + w)) (v.1 138 (3 * k + w)) (v.1 139 (3 * k + w)) (v.1 140 (3 * k + w))
/-- the loop: N turns, S statements; x's side out of g, the model's out of v -/
def IL (g v : sd_H) (N S : Nat) : Prop :=
  N ≤ 10 ∧ S ≤ 5 ∧ g.1 6 1 = nI N ∧ v.1 126 6 = nI N ∧ g.1 6 2 = nI S ∧ v.1 126 7 = nI S ∧ ∀ k, k < S → ILk g v k
theorem ILk_c {g v g' v' : sd_H} {k : Nat} (hk : k < 5) (hg : ∀ c, 8 ≤ c → c ≤ 32 → g'.1 c = g.1 c)
    (h2 : v'.1 132 = v.1 132) (h3 : v'.1 133 = v.1 133) (h4 : v'.1 134 = v.1 134) (h5 : v'.1 135 = v.1 135) (h6 : v'.1 136 = v.1 136)
    (h7 : v'.1 137 = v.1 137) (h8 : v'.1 138 = v.1 138) (h9 : v'.1 139 = v.1 139) (h0 : v'.1 140 = v.1 140) (i : ILk g v k) : ILk g' v' k := by
  unfold ILk
  rw [hg (8 + 5 * k) (by omega) (by omega), h2, h3, h4, h5, h6, h7, h8, h9, h0]
  refine ⟨i.1, fun w hw => ?_⟩
  rw [hg (10 + 5 * k + w) (by omega) (by omega)]
  exact i.2 w hw
theorem IL_c {g v g' v' : sd_H} {N S : Nat} (hg : ∀ c, 6 ≤ c → c ≤ 32 → g'.1 c = g.1 c)
    (h2 : v'.1 132 = v.1 132) (h3 : v'.1 133 = v.1 133) (h4 : v'.1 134 = v.1 134) (h5 : v'.1 135 = v.1 135) (h6 : v'.1 136 = v.1 136)
    (h7 : v'.1 137 = v.1 137) (h8 : v'.1 138 = v.1 138) (h9 : v'.1 139 = v.1 139) (h0 : v'.1 140 = v.1 140)
    (hn : v'.1 126 6 = v.1 126 6) (hs : v'.1 126 7 = v.1 126 7) (i : IL g v N S) : IL g' v' N S := by
  obtain ⟨a, b, c, d, e, f, i⟩ := i
  refine ⟨a, b, ?_, ?_, ?_, ?_, fun k hk => ILk_c (by omega) (fun c p q => hg c (by omega) q) h2 h3 h4 h5 h6 h7 h8 h9 h0 (i k hk)⟩
  · rw [hg 6 (by omega) (by omega)]; exact c
  · rw [hn]; exact d
  · rw [hg 6 (by omega) (by omega)]; exact e
  · rw [hs]; exact f
/-- an entry of the history: x's row and the model's five words; c: statements ahead of it, d: behind it -/
def IHe (x : Nat → Int32) (a b p q s : Int32) (c d : Nat) : Prop :=
  x 0 = a ∧
  ((a = nI 0 ∧ x 3 = p ∧ (∃ n, n ≤ 10 ∧ p = nI n) ∧ d = c) ∨
   (a = nI 1 ∧ x 1 = nI c ∧ d = c + 1) ∨
   (a = nI 2 ∧ d = c ∧ x 3 = p ∧ ∃ k w, k < 5 ∧ w < 3 ∧ x 1 = nI k ∧ x 2 = nI w ∧ b = nI (3 * k + w) ∧ ((p = -1 ∧ ¬ w = 0) ∨ ∃ r, r < 6 ∧ p = nI r)) ∨
   (a = nI 3 ∧ d = c ∧ x 3 = p ∧ x 4 = q ∧ x 5 = s ∧ (∃ k w, k < 5 ∧ w < 3 ∧ x 1 = nI k ∧ x 2 = nI w ∧ b = nI (3 * k + w)) ∧
     (-60 ≤ p.toInt ∧ p.toInt ≤ 60) ∧ (-6 ≤ q.toInt ∧ q.toInt ≤ 6) ∧ (-6 ≤ s.toInt ∧ s.toInt ≤ 6)) ∨
   (a = nI 4 ∧ d = c ∧ x 3 = p ∧ x 4 = q ∧ (∃ k, k < 5 ∧ x 1 = nI k ∧ b = nI k) ∧ (∃ k, 1 ≤ k ∧ k ≤ 6 ∧ p = nI k) ∧ (∃ k, k ≤ 5 ∧ q = nI k)) ∨
   (a = nI 5 ∧ d = c ∧ x 3 = p ∧ (∃ k, k < 5 ∧ x 1 = nI k ∧ b = nI k) ∧ (p = -1 ∨ ∃ r, r < 6 ∧ p = nI r)))
/-- the entries of the history: n of them, from o on in x's ring -/
def IHs (g v : sd_H) (o n : Nat) (cs : Nat → Nat) : Prop :=
  ∀ p, p < n → IHe (g.1 (35 + (o + p) % 20)) (v.1 141 (6 * p)) (v.1 141 (6 * p + 1)) (v.1 141 (6 * p + 2)) (v.1 141 (6 * p + 3)) (v.1 141 (6 * p + 4)) (cs p) (cs (p + 1))
/-- the history -/
def IH (g v : sd_H) (S : Nat) : Prop :=
  ∃ (o n : Nat) (cs : Nat → Nat), o < 20 ∧ n ≤ 20 ∧ g.1 33 1 = nI o ∧ g.1 33 2 = nI n ∧ v.1 126 18 = nI n ∧ cs n = S ∧ IHs g v o n cs
theorem IHs_c {g v g' v' : sd_H} {o n : Nat} {cs : Nat → Nat} (hg : ∀ c, 35 ≤ c → c ≤ 54 → g'.1 c = g.1 c) (h1 : v'.1 141 = v.1 141) (i : IHs g v o n cs) : IHs g' v' o n cs := fun p hp => by
  rw [hg _ (by omega) (by omega), h1]
  exact i p hp
theorem IH_c {g v g' v' : sd_H} {S : Nat} (h0 : g'.1 33 = g.1 33) (hg : ∀ c, 35 ≤ c → c ≤ 54 → g'.1 c = g.1 c) (h1 : v'.1 141 = v.1 141) (h2 : v'.1 126 18 = v.1 126 18) (i : IH g v S) : IH g' v' S := by
  obtain ⟨o, n, cs, a, b, c, d, e, f, i⟩ := i
  refine ⟨o, n, cs, a, b, ?_, ?_, ?_, f, IHs_c hg h1 i⟩
  · rw [h0]; exact c
  · rw [h0]; exact d
  · rw [h2]; exact e
/-- the text -/
def IT (xn : Int32) (xt : Nat → Int32) (mn : Int32) (mt : Nat → Int32) : Prop :=
  ∃ n, n ≤ 5 ∧ xn = nI n ∧ mn = nI n ∧ ∀ i, i < n → xt i = mt i
/-- what is told of the latest run -/
def IO (xe : Int32) (xf xo : Nat → Int32) (me : Int32) (mf mo : Nat → Int32) : Prop :=
  (∃ n, n ≤ 10 ∧ xe = nI n ∧ me = nI n ∧ ∀ p, p < n → xo p = mo p) ∧ ∀ f, f < 3 → xf f = mf f
