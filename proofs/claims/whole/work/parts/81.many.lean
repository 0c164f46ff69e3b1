/-! ===== many, pieces, piece ===== -/
theorem Iv_ox {g h : sd_H} (c : ∀ c, ¬ c = 97 → g.1 c = h.1 c) (d : g.2 = h.2) (i : Iv h h) : Iv g g := by
  refine Iv_c (c 2 (by omega)) (c 3 (by omega)) (by rw [d]) (c 5 (by omega)) (fun q h1 h2 => c q (by omega)) (c 33 (by omega)) (fun q h1 h2 => c q (by omega)) (c 55 (by omega)) (by rw [c 0 (by omega)])
    (c 107 (by omega)) (c 108 (by omega)) (c 109 (by omega)) (by rw [c 56 (by omega)]) (fun q h1 => c (58 + q) (by omega))
    (c 127 (by omega)) (c 128 (by omega)) (by rw [d]) (c 130 (by omega)) (c 132 (by omega)) (c 133 (by omega)) (c 134 (by omega)) (c 135 (by omega)) (c 136 (by omega)) (c 137 (by omega)) (c 138 (by omega)) (c 139 (by omega)) (c 140 (by omega))
    (by rw [c 126 (by omega)]) (by rw [c 126 (by omega)]) (c 141 (by omega)) (by rw [c 126 (by omega)]) (by rw [c 126 (by omega)]) (c 142 (by omega)) (by rw [c 0 (by omega), c 126 (by omega)]; exact i.2.2.2.2.2.2.1)
    (by rw [c 126 (by omega)]) (by rw [c 126 (by omega)]) (c 150 (by omega)) (c 151 (by omega)) i
theorem Iv_om {g h : sd_H} (c : ∀ c, ¬ c = 126 → g.1 c = h.1 c) (e : ∀ k, (k < 26 ∨ 28 < k) → g.1 126 k = h.1 126 k) (d : g.2 = h.2) (i : Iv h h) : Iv g g := by
  refine Iv_c (c 2 (by omega)) (c 3 (by omega)) (by rw [d]) (c 5 (by omega)) (fun q h1 h2 => c q (by omega)) (c 33 (by omega)) (fun q h1 h2 => c q (by omega)) (c 55 (by omega)) (by rw [c 0 (by omega)])
    (c 107 (by omega)) (c 108 (by omega)) (c 109 (by omega)) (by rw [c 56 (by omega)]) (fun q h1 => c (58 + q) (by omega))
    (c 127 (by omega)) (c 128 (by omega)) (by rw [d]) (c 130 (by omega)) (c 132 (by omega)) (c 133 (by omega)) (c 134 (by omega)) (c 135 (by omega)) (c 136 (by omega)) (c 137 (by omega)) (c 138 (by omega)) (c 139 (by omega)) (c 140 (by omega))
    (e 6 (by omega)) (e 7 (by omega)) (c 141 (by omega)) (e 18 (by omega)) (e 20 (by omega)) (c 142 (by omega)) (by rw [c 0 (by omega), e 4 (by omega)]; exact i.2.2.2.2.2.2.1)
    (e 34 (by omega)) (e 37 (by omega)) (c 150 (by omega)) (c 151 (by omega)) i
/-- one's section alone has changed; the model's piece alone has changed -/
def OX (g h : sd_H) : Prop := (∀ c, ¬ c = 97 → g.1 c = h.1 c) ∧ g.2 = h.2
def OM (g h : sd_H) : Prop := (∀ c, ¬ c = 126 → g.1 c = h.1 c) ∧ (∀ k, (k < 26 ∨ 28 < k) → g.1 126 k = h.1 126 k) ∧ g.2 = h.2
theorem OX_q {g h : sd_H} (x : OX g h) (i : Iv h h) : QQ g h := ⟨Iv_ox x.1 x.2 i, x.2, fun c h1 h2 => x.1 c (by omega), ⟨x.1 150 (by omega), x.1 151 (by omega)⟩, fun k _ _ => by rw [x.1 126 (by omega)]⟩
theorem OM_q {g h : sd_H} (x : OM g h) (i : Iv h h) : QQ g h := ⟨Iv_om x.1 x.2.1 x.2.2 i, x.2.2, fun c h1 h2 => x.1 c (by omega), ⟨x.1 150 (by omega), x.1 151 (by omega)⟩, fun k _ h2 => x.2.1 k (by omega)⟩
theorem OX_l {g h : sd_H} {a b c : Int32} (x : OX g h) : OX (xL g 97 a b c) h := ⟨fun q hq => by simp (disch := omega) only [wI_d, wD_i, fI_d, fD_i, wI_eq, wD_eq, wI_ne, wD_ne, fI_ne, fD_ne, wI_ns, wD_ns, fI_eq, fD_eq, fI_ns, fD_ns, xL]; exact x.1 q hq, x.2⟩
theorem OM_l {g h : sd_H} {a b c : Int32} (x : OM g h) : OM (mL3 g a b c) h := ⟨fun q hq => by simp (disch := omega) only [wI_d, wD_i, fI_d, fD_i, wI_eq, wD_eq, wI_ne, wD_ne, fI_ne, fD_ne, wI_ns, wD_ns, fI_eq, fD_eq, fI_ns, fD_ns, mL3]; exact x.1 q hq, fun k hk => by simp (disch := omega) only [wI_d, wD_i, fI_d, fD_i, wI_eq, wD_eq, wI_ne, wD_ne, fI_ne, fD_ne, wI_ns, wD_ns, fI_eq, fD_eq, fI_ns, fD_ns, mL3]; exact x.2.1 k hk, x.2.2⟩
/-- how many pieces, of g at most -/
def np : Nat → Nat → Nat
  | 0, _ => 0
  | g + 1, m => if m = 0 then 0 else 1 + np g (tpL m)
theorem np_0 (g : Nat) : np g 0 = 0 := by
  cases g with
  | zero => rfl
  | succ g => exact if_pos rfl
theorem XT_pieces_L35_e {h : sd_H} : ∀ g f (x : sd_H) m n, g + n = 24 → g < f → m < 2 ^ 24 → OX x h → ∃ x', XT_pieces_L35 f x (nI m) (nI n) = some (x', nI (n + np g m)) ∧ OX x' h
  | _, 0, _, _, _, _, q, _, _ => absurd q (Nat.not_lt_zero _)
  | 0, f + 1, x, m, n, e, _, hm, o => by
    unfold XT_pieces_L35
    rw [show (24 : Int32) = nI 24 from rfl, if_pos (nI_le (by omega) (by omega))]
    exact ⟨x, rfl, o⟩
  | g + 1, f + 1, x, m, n, e, q, hm, o => by
    unfold XT_pieces_L35 np
    rw [show (24 : Int32) = nI 24 from rfl, if_neg (nI_ge (by omega) (by omega)), itp (n0eq (k := m) (by omega))]
    by_cases z : m = 0
    · rw [if_pos z, if_pos z]
      exact ⟨x, rfl, o⟩
    · rw [if_neg z, if_neg z, XS_takePiece_e hm z, b2_s, nI_1]
      obtain ⟨x', e1, o'⟩ := XT_pieces_L35_e g f _ (tpL m) (n + 1) (by omega) (by omega) (tp_L hm z).1 (OX_l o)
      exact ⟨x', by rw [e1]; exact congrArg (fun a => some (x', nI a)) (by omega), o'⟩
theorem YM_piecesOf_L4_e {h : sd_H} (g : Nat) : ∀ f (x : sd_H) m n, pc m 0 24 ≤ g → g < f → m < 2 ^ 24 → OM x h → ∃ x', YM_piecesOf_L4 f x (nI n) (nI m) = some (x', nI (n + np g m)) ∧ OM x' h := by
  induction g with
  | zero =>
    intro f x m n e q hm o
    obtain ⟨f, rfl⟩ : ∃ k, f = k + 1 := ⟨f - 1, by omega⟩
    unfold YM_piecesOf_L4
    have z : m = 0 := Decidable.byContradiction fun z => by
      have := (tp_L hm z).2
      omega
    rw [itp (n0eq (k := m) (by omega)), if_pos z]
    exact ⟨x, rfl, o⟩
  | succ g ih =>
    intro f x m n e q hm o
    obtain ⟨f, rfl⟩ : ∃ k, f = k + 1 := ⟨f - 1, by omega⟩
    unfold YM_piecesOf_L4
    rw [itp (n0eq (k := m) (by omega))]
    by_cases z : m = 0
    · rw [if_pos z, z, np_0]
      exact ⟨x, rfl, o⟩
    · have l := tp_L hm z
      rw [if_neg z, YM_without_e hm z, b2_s, nI_1]
      obtain ⟨x', e1, o'⟩ := ih f _ (tpL m) (n + 1) (by omega) (by omega) l.1 (OM_l o)
      have en : np (g + 1) m = 1 + np g (tpL m) := if_neg z
      rw [en]
      exact ⟨x', by rw [e1]; exact congrArg (fun a => some (x', nI a)) (by omega), o'⟩
theorem YM_piecesOf_e {h : sd_H} {m : Nat} (hm : m < 2 ^ 24) : ∃ x', YM_piecesOf h (nI m) = some (x', nI (np 24 m)) ∧ OM x' h := by
  obtain ⟨x', e, o⟩ := YM_piecesOf_L4_e (h := h) 24 FU h m 0 (pc_le m 24 0) (by rw [FU_s]; omega) hm ⟨fun _ _ => rfl, fun _ _ => rfl, rfl⟩
  rw [Nat.zero_add] at e
  exact ⟨x', e, o⟩
/-- what is left behind p pieces -/
def lf : Nat → Nat → Nat
  | 0, m => m
  | p + 1, m => if m = 0 then 0 else lf p (tpL m)
theorem lf_0 : ∀ p, lf p 0 = 0
  | 0 => rfl
  | p + 1 => if_pos rfl
/-- a piece -/
def pv (m : Nat) (d : Int32) : Int32 := if m = 0 then -2 else if d = 0 then nI (tpF m) else if d = 1 then nI (tpD m) else if d = 2 then nI (tpN m) else -2
theorem XT_piece_L46_e {h : sd_H} {d : Int32} {p : Nat} (hp : p < 24) : ∀ g f (x : sd_H) m n, g + n = p → g < f → m < 2 ^ 24 → OX x h → ∃ x', XT_piece_L46 f x (nI p) d (nI m) (nI n) = some (x', pv (lf g m) d) ∧ OX x' h
  | _, 0, _, _, _, _, q, _, _ => absurd q (Nat.not_lt_zero _)
  | g, f + 1, x, m, n, e, q, hm, o => by
    have fin : ∀ m, m < 2 ^ 24 → ∃ x', XT_piece_B75 x d (nI m) = some (x', pv m d) ∧ OX x' h := fun m hm => by
      unfold XT_piece_B75 pv
      rw [itp (n0eq (k := m) (by omega))]
      by_cases z : m = 0
      · rw [if_pos z, if_pos z]
        exact ⟨x, rfl, o⟩
      · rw [if_neg z, if_neg z, XS_takePiece_e hm z, b2_s]
        unfold XS_part
        rw [show (xL x 97 (nI (tpF m)) (nI (tpD m)) (nI (tpN m))).1 97 0 = nI (tpF m) by simp (disch := omega) only [wI_d, wD_i, fI_d, fD_i, wI_eq, wD_eq, wI_ne, wD_ne, fI_ne, fD_ne, wI_ns, wD_ns, fI_eq, fD_eq, fI_ns, fD_ns, xL], show (xL x 97 (nI (tpF m)) (nI (tpD m)) (nI (tpN m))).1 97 1 = nI (tpD m) by simp (disch := omega) only [wI_d, wD_i, fI_d, fD_i, wI_eq, wD_eq, wI_ne, wD_ne, fI_ne, fD_ne, wI_ns, wD_ns, fI_eq, fD_eq, fI_ns, fD_ns, xL], show (xL x 97 (nI (tpF m)) (nI (tpD m)) (nI (tpN m))).1 97 2 = nI (tpN m) by simp (disch := omega) only [wI_d, wD_i, fI_d, fD_i, wI_eq, wD_eq, wI_ne, wD_ne, fI_ne, fD_ne, wI_ns, wD_ns, fI_eq, fD_eq, fI_ns, fD_ns, xL]]
        refine ⟨xL x 97 (nI (tpF m)) (nI (tpD m)) (nI (tpN m)), ?_, OX_l o⟩
        by_cases d0 : d = 0
        · rw [if_pos d0, if_pos d0]
          rfl
        · rw [if_neg d0, if_neg d0]
          by_cases d1 : d = 1
          · rw [if_pos d1, if_pos d1]
            rfl
          · rw [if_neg d1, if_neg d1]
            by_cases d2 : d = 2
            · rw [if_pos d2, if_pos d2]
              rfl
            · rw [if_neg d2, if_neg d2]
              rfl
    unfold XT_piece_L46
    cases g with
    | zero =>
      rw [if_pos (nI_le (by omega) (by omega))]
      exact fin m hm
    | succ g =>
      rw [if_neg (nI_ge (by omega) (by omega)), itp (n0eq (k := m) (by omega))]
      unfold lf
      by_cases z : m = 0
      · rw [if_pos z, if_pos z, z]
        exact fin 0 (by omega)
      · rw [if_neg z, if_neg z, XS_takePiece_e hm z, b2_s, nI_1]
        exact XT_piece_L46_e hp g f _ (tpL m) (n + 1) (by omega) (by omega) (tp_L hm z).1 (OX_l o)
theorem YM_pieceOf_L6_e {h : sd_H} {d p : Nat} (hd : d ≤ 2) (hp : p < 2 ^ 30) (f : Nat) : ∀ g (x : sd_H) m n, g + n = p → pc m 0 24 < f → m < 2 ^ 24 → OM x h → ∃ x', YM_pieceOf_L6 f x (nI p) (nI d) (nI m) (nI n) = some (x', pv (lf g m) (nI d)) ∧ OM x' h := by
  induction f with
  | zero => exact fun g x m n e q => absurd q (Nat.not_lt_zero _)
  | succ f ih =>
    intro g x m n e q hm o
    unfold YM_pieceOf_L6
    rw [if_neg (nI_nlt (by omega) (by omega)), itp (n0eq (k := m) (by omega))]
    by_cases z : m = 0
    · rw [if_pos z, z, lf_0]
      exact ⟨x, rfl, o⟩
    · have l := tp_L hm z
      rw [if_neg z, YM_without_e hm z, b2_s, itp (nI_eqI (a := n) (b := p) (by omega) (by omega)), nI_1]
      cases g with
      | zero =>
        rw [if_pos (by omega), show (mL3 x (nI (tpF m)) (nI (tpD m)) (nI (tpN m))).1 126 26 = nI (tpF m) by simp (disch := omega) only [wI_d, wD_i, fI_d, fD_i, wI_eq, wD_eq, wI_ne, wD_ne, fI_ne, fD_ne, wI_ns, wD_ns, fI_eq, fD_eq, fI_ns, fD_ns, mL3], show (mL3 x (nI (tpF m)) (nI (tpD m)) (nI (tpN m))).1 126 27 = nI (tpD m) by simp (disch := omega) only [wI_d, wD_i, fI_d, fD_i, wI_eq, wD_eq, wI_ne, wD_ne, fI_ne, fD_ne, wI_ns, wD_ns, fI_eq, fD_eq, fI_ns, fD_ns, mL3], show (mL3 x (nI (tpF m)) (nI (tpD m)) (nI (tpN m))).1 126 28 = nI (tpN m) by simp (disch := omega) only [wI_d, wD_i, fI_d, fD_i, wI_eq, wD_eq, wI_ne, wD_ne, fI_ne, fD_ne, wI_ns, wD_ns, fI_eq, fD_eq, fI_ns, fD_ns, mL3]]
        refine ⟨mL3 x (nI (tpF m)) (nI (tpD m)) (nI (tpN m)), ?_, OM_l o⟩
        rw [show lf 0 m = m from rfl]
        unfold pv
        rw [if_neg z]
        have dd : d = 0 ∨ d = 1 ∨ d = 2 := by omega
        rcases dd with rfl | rfl | rfl <;> rfl
      | succ g =>
        rw [if_neg (by omega)]
        have el : lf (g + 1) m = lf g (tpL m) := if_neg z
        rw [el]
        exact ih g _ (tpL m) (n + 1) (by omega) (by omega) l.1 (OM_l o)
theorem lf_big (p : Nat) : ∀ m, m < 2 ^ 24 → pc m 0 24 ≤ p → lf p m = 0 := by
  induction p with
  | zero =>
    intro m hm h
    refine Decidable.byContradiction fun z => ?_
    have z : ¬ m = 0 := z
    have := (tp_L hm z).2
    omega
  | succ p ih =>
    intro m hm h
    by_cases z : m = 0
    · rw [z, lf_0]
    · have l := tp_L hm z
      have el : lf (p + 1) m = lf p (tpL m) := if_neg z
      rw [el, ih _ l.1 (by omega)]
/-! what sets are asked -/
theorem set_cs {h : sd_H} {N S : Nat} (il : IL h h N S) (a b c : Int32) :
    (XT_isSet h a b c = some 0 ∧ ∀ v : sd_H, v.1 126 6 = nI N → YM_isSet v a b c = some 0) ∨
    ∃ s r o, s < 4 ∧ r < 6 ∧ a = nI s ∧ b = nI r ∧ c = tI o ∧ (∀ t, o = some t → t < N) ∧ XT_isSet h a b c = some 1 ∧ ∀ v : sd_H, v.1 126 6 = nI N → YM_isSet v a b c = some 1 := by
  have hN := il.1
  unfold XT_isSet YM_isSet XT_isSet_B29
  simp only [XT_isRow_e, YM_isRow_e, XT_within_e, YM_in_e, b1_s, XT_isTurn_e, il.2.2.1]
  rcases wn_c a 3 (by omega) with hz | ⟨s, hs, rfl, h1⟩
  · rw [show (3 : Int32) = nI 3 from rfl, hz]
    exact Or.inl ⟨if_pos rfl, fun _ _ => if_pos rfl⟩
  rw [show (3 : Int32) = nI 3 from rfl, h1]
  simp only [if_neg z10.mp]
  rcases wn_c b 5 (by omega) with hz | ⟨r, hr, rfl, h2⟩
  · rw [show (5 : Int32) = nI 5 from rfl, hz]
    exact Or.inl ⟨if_pos rfl, fun _ _ => if_pos rfl⟩
  rw [show (5 : Int32) = nI 5 from rfl, h2]
  simp only [if_neg z10.mp]
  by_cases c1 : c = -1
  · rw [if_pos c1, c1]
    refine Or.inr ⟨s, r, none, by omega, by omega, rfl, rfl, rfl, fun t q => (by cases q), rfl, fun v e => ?_⟩
    rw [e]
    have : wn (-1) (-1) (nI N - 1) = 1 := by
      unfold wn
      rw [if_neg (by decide), if_neg]
      rw [Int32.lt_iff_toInt_lt]
      cases N with
      | zero => decide
      | succ N =>
        rw [nI_pred, nI_toInt (by omega)]
        have : (-1 : Int32).toInt = -1 := by decide
        omega
    rw [this]
    rfl
  · rw [if_neg c1]
    have low : wn c (-1) (nI N - 1) = wn c 0 (nI N - 1) := by
      unfold wn
      have : (c < -1) = (c < 0) := by
        rw [Int32.lt_iff_toInt_lt, Int32.lt_iff_toInt_lt, Int32.toInt_zero, m1_ti]
        have : ¬ c.toInt = -1 := fun z => c1 (Int32.toInt_inj.mp (z.trans m1_ti.symm))
        exact propext ⟨fun q => by omega, fun q => by omega⟩
      rw [itp this]
    rcases wn_cs c (show N < 2 ^ 30 by omega) with hz | ⟨t, ht, rfl, h3⟩
    · rw [hz]
      refine Or.inl ⟨rfl, fun v e => ?_⟩
      rw [e, low, hz]
      rfl
    · rw [h3]
      refine Or.inr ⟨s, r, some t, by omega, by omega, rfl, rfl, rfl, fun u q => ?_, rfl, fun v e => ?_⟩
      · cases q
        exact ht
      · rw [e, low, h3]
        rfl
theorem QQ_il {g h : sd_H} (x : QQ g h) {N S : Nat} (il : IL h h N S) : IL g g N S := by
  obtain ⟨N', S', il', _⟩ := x.1.2.2.2.2.1
  have e6 := x.2.2.2.2 6 (by omega) (by omega)
  have e7 := x.2.2.2.2 7 (by omega) (by omega)
  rw [il.2.2.2.1, il'.2.2.2.1] at e6
  rw [il.2.2.2.2.2.1, il'.2.2.2.2.2.1] at e7
  have a := (nI_eq (by have := il'.1; omega) (by have := il.1; omega)).mp e6
  have b := (nI_eq (by have := il'.2.1; omega) (by have := il.2.1; omega)).mp e7
  subst a
  subst b
  exact il'
theorem cw_c {g h : sd_H} (x : QQ g h) : cw g = cw h := by
  refine funext fun N => funext fun s => funext fun r => funext fun o => ?_
  unfold cw
  rw [ws_c x]
/-- x's word, with the summary made -/
theorem X_word {h : sd_H} (iv : Iv h h) {N S : Nat} (il : IL h h N S) {s r : Nat} (hs : s < 4) (hr : r < 6) (o : Option Nat) (ho : ∀ t, o = some t → t < N) :
    ∃ g, XY_refresh h = some g ∧ XY_cellsOf g (nI s) (nI r) (tI o) = some (nI (cw h N s r o)) ∧ QQ g h ∧ XF g h ∧ FS g (q_al h) := by
  obtain ⟨g, e, i, xf, fs, _⟩ := refresh_e iv
  exact ⟨g, e, XY_cellsOf_e iv.2.2.1 il fs (by rw [xf.1 6 (by omega) (by omega)]; exact il.2.2.1) hs hr o ho, QQ_xf i xf, xf, fs⟩
theorem X_many {h : sd_H} (iv : Iv h h) {N S : Nat} (il : IL h h N S) {s r : Nat} (hs : s < 4) (hr : r < 6) (o : Option Nat) (ho : ∀ t, o = some t → t < N) (e : XT_isSet h (nI s) (nI r) (tI o) = some 1) :
    ∃ g, XT_many h (nI s) (nI r) (tI o) = some (g, nI (pc (cw h N s r o) 0 24)) ∧ QQ g h := by
  obtain ⟨g, e1, e2, q, _⟩ := X_word iv il hs hr o ho
  refine ⟨g, ?_, q⟩
  unfold XT_many
  rw [e, b1_s, if_neg z10.mp, e1, b1_s, e2, b1_s, JI_bitCount_e (cw_lt iv.2.2.1 il s r o), b1_s]
theorem E_many {h : sd_H} (iv : Iv h h) (a b c : Int32) : EE (XT_many h a b c) (fun g => YM_many g a b c) := by
  obtain ⟨N, S, il, ih⟩ := iv.2.2.2.2.1
  rcases set_cs il a b c with ⟨x, y⟩ | ⟨s, r, o, hs, hr, rfl, rfl, rfl, ho, x, y⟩
  · refine EE_i (h1 := h) (h2 := h) (r := -2) (by unfold XT_many; rw [x]; rfl) ?_ iv
    show YM_many h a b c = _
    unfold YM_many
    rw [y h il.2.2.2.1]
    rfl
  · refine EE_q (X_many iv il hs hr o ho x) fun g q => ?_
    have il' := QQ_il q il
    obtain ⟨w, e, q2⟩ := YM_bitsOfSet_e q.1 il' hs hr o ho
    refine ⟨w, ?_, q2⟩
    unfold YM_many
    rw [y g il'.2.2.2.1, b1_s, if_neg z10.mp, e, b2_s, cw_c q, YM_size_e (cw_lt iv.2.2.1 il s r o), b1_s]
theorem X_pieces {h : sd_H} (iv : Iv h h) {N S : Nat} (il : IL h h N S) {s r : Nat} (hs : s < 4) (hr : r < 6) (o : Option Nat) (ho : ∀ t, o = some t → t < N) (e : XT_isSet h (nI s) (nI r) (tI o) = some 1) :
    ∃ g, XT_pieces h (nI s) (nI r) (tI o) = some (g, nI (np 24 (cw h N s r o))) ∧ QQ g h := by
  obtain ⟨g, e1, e2, q, _⟩ := X_word iv il hs hr o ho
  obtain ⟨x', e3, o'⟩ := XT_pieces_L35_e (h := g) 24 FU g (cw h N s r o) 0 (by omega) (by rw [FU_s]; omega) (cw_lt iv.2.2.1 il s r o) ⟨fun _ _ => rfl, rfl⟩
  rw [Nat.zero_add, nI_0] at e3
  refine ⟨x', ?_, QQ_t (OX_q o' q.1) q⟩
  unfold XT_pieces
  rw [e, b1_s, if_neg z10.mp, e1, b1_s, e2, b1_s]
  exact e3
theorem E_pieces {h : sd_H} (iv : Iv h h) (a b c : Int32) : EE (XT_pieces h a b c) (fun g => YM_pieces g a b c) := by
  obtain ⟨N, S, il, ih⟩ := iv.2.2.2.2.1
  rcases set_cs il a b c with ⟨x, y⟩ | ⟨s, r, o, hs, hr, rfl, rfl, rfl, ho, x, y⟩
  · refine EE_i (h1 := h) (h2 := h) (r := -2) (by unfold XT_pieces; rw [x]; rfl) ?_ iv
    show YM_pieces h a b c = _
    unfold YM_pieces
    rw [y h il.2.2.2.1]
    rfl
  · refine EE_q (X_pieces iv il hs hr o ho x) fun g q => ?_
    have il' := QQ_il q il
    obtain ⟨w, e, q2⟩ := YM_bitsOfSet_e q.1 il' hs hr o ho
    obtain ⟨x', e3, o'⟩ := YM_piecesOf_e (h := w) (cw_lt iv.2.2.1 il s r o)
    refine ⟨x', ?_, QQ_t (OM_q o' q2.1) q2⟩
    unfold YM_pieces
    rw [y g il'.2.2.2.1, b1_s, if_neg z10.mp, e, b2_s, cw_c q, e3, b2_s]
theorem E_piece {h : sd_H} (iv : Iv h h) (a b c p d : Int32) : EE (XT_piece h a b c p d) (fun g => YM_piece g a b c p d) := by
  obtain ⟨N, S, il, ih⟩ := iv.2.2.2.2.1
  rcases set_cs il a b c with ⟨x, y⟩ | ⟨s, r, o, hs, hr, rfl, rfl, rfl, ho, x, y⟩
  · refine EE_i (h1 := h) (h2 := h) (r := -2) (by unfold XT_piece; rw [x]; rfl) ?_ iv
    show YM_piece h a b c p d = _
    unfold YM_piece
    rw [y h il.2.2.2.1]
    rfl
  have cl := cw_lt iv.2.2.1 il s r o
  -- the model, of a part and a piece
  have M : ∀ g, QQ g h → ∀ p z, z ≤ 2 → p < 2 ^ 31 → ∃ w, YM_piece g (nI s) (nI r) (tI o) (nI p) (nI z) = some (w, pv (lf p (cw h N s r o)) (nI z)) ∧ QQ w g := fun g q p z hz hp => by
    have il' := QQ_il q il
    obtain ⟨w, e, q2⟩ := YM_bitsOfSet_e q.1 il' hs hr o ho
    have YP : ∃ x', YM_pieceOf w (nI (cw h N s r o)) (nI p) (nI z) = some (x', pv (lf p (cw h N s r o)) (nI z)) ∧ OM x' w := by
      unfold YM_pieceOf
      by_cases big : p < 2 ^ 30
      · exact YM_pieceOf_L6_e hz big FU p w (cw h N s r o) 0 (by omega) (by have := pc_le (cw h N s r o) 24 0; rw [FU_s]; omega) cl ⟨fun _ _ => rfl, fun _ _ => rfl, rfl⟩
      · have big2 : ∀ g f (x : sd_H) m n, pc m 0 24 ≤ g → g < f → n + g ≤ 24 → m < 2 ^ 24 → OM x w → ∃ x', YM_pieceOf_L6 f x (nI p) (nI z) (nI m) (nI n) = some (x', -2) ∧ OM x' w := by
          intro g
          induction g with
          | zero =>
            intro f x m n h1 h2 h3 h4 h5
            obtain ⟨f, rfl⟩ : ∃ k, f = k + 1 := ⟨f - 1, by omega⟩
            have mz : m = 0 := Decidable.byContradiction fun z => by
              have := (tp_L h4 z).2
              omega
            unfold YM_pieceOf_L6
            rw [if_neg (nI_nlt (by omega) (by omega)), mz, if_pos nI_0]
            exact ⟨x, rfl, h5⟩
          | succ g ih =>
            intro f x m n h1 h2 h3 h4 h5
            obtain ⟨f, rfl⟩ : ∃ k, f = k + 1 := ⟨f - 1, by omega⟩
            unfold YM_pieceOf_L6
            rw [if_neg (nI_nlt (by omega) (by omega)), itp (n0eq (k := m) (by omega))]
            by_cases mz : m = 0
            · rw [if_pos mz]
              exact ⟨x, rfl, h5⟩
            · have l := tp_L h4 mz
              rw [if_neg mz, YM_without_e h4 mz, b2_s, itp (nI_eqI (a := n) (b := p) (by omega) (by omega)), if_neg (by omega), nI_1]
              exact ih f _ (tpL m) (n + 1) (by omega) (by omega) (by omega) l.1 (OM_l h5)
        have pl := pc_le (cw h N s r o) 24 0
        obtain ⟨x', e1, e2⟩ := big2 24 FU w (cw h N s r o) 0 pl (by rw [FU_s]; omega) (by omega) cl ⟨fun _ _ => rfl, fun _ _ => rfl, rfl⟩
        refine ⟨x', ?_, e2⟩
        rw [lf_big p _ cl (by omega)]
        rw [nI_0] at e1
        rw [e1]
        rfl
    obtain ⟨x', e3, o'⟩ := YP
    refine ⟨x', ?_, QQ_t (OM_q o' q2.1) q2⟩
    unfold YM_piece
    rw [y g il'.2.2.2.1, b1_s, if_neg z10.mp, if_neg (nI_pos hp), YM_in_e, b1_s, show wn (nI z) 0 2 = 1 from wn_n (m := 2) hz (by omega), if_neg z10.mp, e, b2_s, cw_c q, e3, b2_s]
  have M0 : ∀ g, QQ g h → ∀ p, p < 0 ∨ wn d 0 2 = 0 → ∃ w, YM_piece g (nI s) (nI r) (tI o) p d = some (w, -2) ∧ QQ w g := fun g q p hp => by
    have il' := QQ_il q il
    refine ⟨g, ?_, QQ_r q.1⟩
    unfold YM_piece
    rw [y g il'.2.2.2.1, b1_s, if_neg z10.mp, YM_in_e, b1_s]
    by_cases q0 : p < 0
    · rw [if_pos q0]
    · rw [if_neg q0, hp.resolve_left q0, if_pos rfl]
  unfold XT_piece
  rw [x, b1_s, if_neg z10.mp, XT_within_e, b1_s]
  rcases wn_c p 23 (by omega) with hz | ⟨p, hp, rfl, h2⟩
  · rw [show (23 : Int32) = nI 23 from rfl, hz, if_pos rfl]
    refine EE_q ⟨h, rfl, QQ_r iv⟩ fun g q => ?_
    by_cases p0 : p < 0
    · exact M0 g q p (Or.inl p0)
    · obtain ⟨k, hk, rfl⟩ := nI_of p0
      rcases wn_c d 2 (by omega) with hz2 | ⟨z, hz2, rfl, h4⟩
      · exact M0 g q _ (Or.inr hz2)
      · have kb : 24 ≤ k := Nat.le_of_not_lt fun kl => by
          rw [wn_n (show k ≤ 23 by omega) (by omega)] at hz
          exact absurd hz (by decide)
        obtain ⟨w, e, q2⟩ := M g q k z hz2 hk
        have pl := pc_le (cw h N s r o) 24 0
        rw [lf_big k _ cl (by omega)] at e
        exact ⟨w, e, q2⟩
  · rw [show (23 : Int32) = nI 23 from rfl, h2, if_neg z10.mp]
    obtain ⟨g, e1, e2, q, _⟩ := X_word iv il hs hr o ho
    obtain ⟨x', e3, o'⟩ := XT_piece_L46_e (h := g) (d := d) (show p < 24 by omega) p FU g (cw h N s r o) 0 (by omega) (by rw [FU_s]; omega) cl ⟨fun _ _ => rfl, rfl⟩
    rw [nI_0] at e3
    refine EE_q (a := pv (lf p (cw h N s r o)) d) ⟨x', ?_, QQ_t (OX_q o' q.1) q⟩ fun g q => ?_
    · rw [e1, b1_s, e2, b1_s]
      exact e3
    · rcases wn_c d 2 (by omega) with hz2 | ⟨z, hz2, rfl, h4⟩
      · have n0 : ∀ q, q ≤ 2 → ¬ d = nI q := fun q hq z => by
          rw [z, wn_n hq (by omega)] at hz2
          exact absurd hz2 (by decide)
        have : pv (lf p (cw h N s r o)) d = -2 := by
          unfold pv
          rw [if_neg (show ¬ d = 0 from n0 0 (by omega)), if_neg (show ¬ d = 1 from n0 1 (by omega)), if_neg (show ¬ d = 2 from n0 2 (by omega))]
          split <;> rfl
        rw [this]
        exact M0 g q _ (Or.inr hz2)
      · exact M g q p z hz2 (by omega)
