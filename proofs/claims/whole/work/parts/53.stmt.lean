/-! ===== statement ===== -/
theorem push_n {g v : sd_H} {S : Nat} (i : IH g v S) (act k w : Int32) : ∃ g1, XH_note g act k w = some g1 ∧ FHx g1 g ∧
    ∀ v' what at_ p q s, v'.1 126 18 = v.1 126 18 → v'.1 141 = v.1 141 → ∃ v2, YM_logs v' what at_ p q s = some v2 ∧ FHm v2 v' ∧
    ∀ gg vv S', gg.1 33 = g1.1 33 → (∀ c, 35 ≤ c → c ≤ 54 → gg.1 c = g1.1 c) → vv.1 141 = v2.1 141 → vv.1 126 18 = v2.1 126 18 →
    (∀ x : Nat → Int32, x 0 = act → x 1 = k → x 2 = w → IHe x what at_ p q s S S') → IH gg vv S' := by
  obtain ⟨o, n, cs, ho, hn, e1, e2, e3, e4, i⟩ := i
  obtain ⟨g1, o', n', d, n1, n2, n3, n4, n5, n6, n7, n8, n9⟩ := XH_note_e ⟨ho, hn, e1, e2⟩ act k w
  refine ⟨g1, n1, n3, fun v' what at_ p q s f1 f2 => ?_⟩
  obtain ⟨v2, n'', t, l1, l2, l3, l4, l5, l6, l7, l8, l9, l10, l11⟩ := YM_logs_e hn (f1.trans e3) what at_ p q s
  obtain rfl : n'' = n' := by omega
  obtain rfl : t = d := by omega
  refine ⟨v2, l1, l3, fun gg vv S' q1 q2 q3 q4 q5 => ?_⟩
  have hc := IHs_push (g2 := g1) (v2 := v2) (S' := S') i n4 (by omega) (fun p hp => n6 p hp) (fun p hp q hq => by rw [l6 p hp q hq, f2])
    (by
      rw [l7, l8, l9, l10, l11, e4]
      exact q5 _ n7 n8 n9)
  obtain ⟨cs', c1, c2⟩ := hc
  obtain ⟨y1, y2, y3, y4⟩ := n2
  exact IH_c q1 q2 q3 q4 ⟨o', n'', cs', y1, y2, y3, y4, l2, c1, c2⟩
/-- the last name from l on, of m -/
def fy (t : Nat → Int32) (n : Nat) : Int32 → Nat → Nat → Int32
  | o, _, 0 => o
  | o, l, m + 1 => fy t n (if mt t n l = true then nI l else o) (l + 1) m
theorem YM_statement_L16_e {h : sd_H} {n : Nat} (hn : n ≤ 5) (e2 : h.1 126 20 = nI n) (c : Int32) : ∀ m f l o, l + m = 13 → YM_statement_L16 (f + m) h c o (nI l) = YM_statement_L16 f h c (fy (h.1 142) n o l m) (nI 13)
  | 0, f, l, o, e => by
    obtain rfl : l = 13 := by omega
    rfl
  | m + 1, f, l, o, e => by
    rw [← Nat.add_assoc]
    conv => lhs; unfold YM_statement_L16
    rw [if_neg (show ¬ (13 : Int32) ≤ nI l from nI_ge (b := 13) (by omega) (by omega)), YM_isName_e hn e2 (by omega), b1_s]
    unfold fy YM_statement_B35
    rw [nI_1]
    cases q : mt (h.1 142) n l
    · rw [if_pos (show bi false = 0 from rfl), YM_statement_L16_e hn e2 c m f (l + 1) _ (by omega), if_neg (show ¬ false = true by decide)]
    · rw [if_neg (show ¬ bi true = 0 by decide), YM_statement_L16_e hn e2 c m f (l + 1) _ (by omega), if_pos (show true = true from rfl)]
theorem fy_n {t : Nat → Int32} {n : Nat} : ∀ m l o, l + m = 13 → (∀ j, l ≤ j → j < 13 → mt t n j = false) → fy t n o l m = o
  | 0, _, _, _, _ => rfl
  | m + 1, l, o, e, h => by
    unfold fy
    rw [h l (by omega) (by omega)]
    exact fy_n m (l + 1) o (by omega) fun j h1 h2 => h j (by omega) h2
theorem fy_j {t : Nat → Int32} {n j : Nat} (hj : j < 13) (hm : mt t n j = true) : ∀ m l o, l + m = 13 → l ≤ j ∨ o = nI j → fy t n o l m = nI j
  | 0, l, o, e, h => h.resolve_left (by omega)
  | m + 1, l, o, e, h => by
    unfold fy
    refine fy_j hj hm m (l + 1) _ (by omega) ?_
    by_cases q : mt t n l = true
    · rw [if_pos q, mt_u (by omega) hj q hm]
      exact Or.inr rfl
    · rw [if_neg q]
      rcases h with h | h
      · refine Or.inl ?_
        have : ¬ l = j := fun z => q (by rw [z]; exact hm)
        omega
      · exact Or.inr h
def xR (g : sd_H) (r : Nat) (v : Int32) : sd_H := wI (wI (wI (wI g r 0 v) r 1 0) r 2 0) r 3 0
def xB (h : sd_H) (b : Nat) (o c : Int32) : sd_H := xR (xR (xR (wI (wI (wI (wI (wI h b 1 o) b 2 c) b 3 1) b 4 0) b 5 (-1)) (b + 2) 0) (b + 3) (-1)) (b + 4) (-1)
theorem XA_begin_e (h : sd_H) (b : Nat) (o c : Int32) : XA_begin h b o c = some (xB h b o c) := by
  unfold XA_begin
  rw [show FU = 99996 + 4 from rfl]
  have : ∀ f g, XA_begin_L27 (f + 4) g b 0 = some (xR (xR (xR g (b + 2) 0) (b + 3) (-1)) (b + 4) (-1)) := fun f g => by
    rfl
  simp only [hb_s, this]
  rfl
def mB (g : sd_H) (e : Nat) (v : Int32) : sd_H := wI (wI (wI (wI g 137 e v) 138 e 0) 139 e 0) 140 e 0
theorem YM_statement_L135_s {g : sd_H} {S e f : Nat} (hS : S < 5) (e1 : g.1 126 7 = nI S) (h1 : 3 * S ≤ e) (h2 : e < 3 * S + 3) : YM_statement_L135 (f + 1) g (nI e) = YM_statement_L135 f (mB g e (if e = 3 * S then 0 else -1)) (nI (e + 1)) := by
  conv => lhs; unfold YM_statement_L135
  unfold YM_statement_B163
  rw [e1]
  simp (disch := omega) only [lit 3, pk_mul, nI_add, nI_1, nI_leI, pk_rem, n0eq, inB_n, gd_t, nI_clamp, hb_s]
  rw [if_neg (by omega)]
  by_cases q : e = 3 * S
  · rw [if_pos (by omega), if_pos q]
    rfl
  · rw [if_neg (by omega), if_neg q]
    rfl
theorem YM_statement_L135_e {g : sd_H} {S : Nat} (hS : S < 5) (e1 : g.1 126 7 = nI S) : YM_statement_L135 FU g (nI (3 * S)) = some (wI (mB (mB (mB g (3 * S) 0) (3 * S + 1) (-1)) (3 * S + 2) (-1)) 126 7 (nI (S + 1)), nI S) := by
  rw [show FU = 99996 + 1 + 1 + 1 + 1 from rfl, YM_statement_L135_s hS e1 (by omega) (by omega), YM_statement_L135_s hS (by simp (disch := omega) only [wI_d, wD_i, fI_d, fD_i, wI_eq, wD_eq, wI_ne, wD_ne, fI_ne, fD_ne, wI_ns, wD_ns, fI_eq, fD_eq, fI_ns, fD_ns, mB]; exact e1) (by omega) (by omega), YM_statement_L135_s hS (by simp (disch := omega) only [wI_d, wD_i, fI_d, fD_i, wI_eq, wD_eq, wI_ne, wD_ne, fI_ne, fD_ne, wI_ns, wD_ns, fI_eq, fD_eq, fI_ns, fD_ns, mB]; exact e1) (by omega) (by omega)]
  rw [if_pos rfl, if_neg (by omega), if_neg (by omega)]
  unfold YM_statement_L135
  have e2 : (mB (mB (mB g (3 * S) 0) (3 * S + 1) (-1)) (3 * S + 1 + 1) (-1)).1 126 7 = nI S := by
    simp (disch := omega) only [wI_d, wD_i, fI_d, fD_i, wI_eq, wD_eq, wI_ne, wD_ne, fI_ne, fD_ne, wI_ns, wD_ns, fI_eq, fD_eq, fI_ns, fD_ns, mB]
    exact e1
  rw [e2]
  simp (disch := omega) only [lit 3, pk_mul, nI_add, nI_1, nI_leI, hb_s, wI_eq, nI_m1, Nat.add_sub_cancel]
  rw [if_pos (by omega)]
