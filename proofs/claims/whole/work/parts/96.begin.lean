/-! ===== the beginning of a run ===== -/
/-- a piece of a cell is a copy of another's -/
def cI (h : sd_H) (c d lo hi : Nat) : sd_H := (fun c' k' => if c' = c ∧ lo ≤ k' ∧ k' < hi then h.1 d k' else h.1 c' k', h.2)
def cD (h : sd_H) (c d lo hi : Nat) : sd_H := (h.1, fun c' k' => if c' = c ∧ lo ≤ k' ∧ k' < hi then h.2.1 d k' else h.2.1 c' k', h.2.2)
theorem cI_i (h : sd_H) (c d lo hi c' k' : Nat) : (cI h c d lo hi).1 c' k' = if c' = c ∧ lo ≤ k' ∧ k' < hi then h.1 d k' else h.1 c' k' := rfl
theorem cD_d (h : sd_H) (c d lo hi c' k' : Nat) : (cD h c d lo hi).2.1 c' k' = if c' = c ∧ lo ≤ k' ∧ k' < hi then h.2.1 d k' else h.2.1 c' k' := rfl
theorem cD_ii (h : sd_H) (c d lo hi : Nat) : (cD h c d lo hi).1 = h.1 := rfl
theorem cI_dd (h : sd_H) (c d lo hi : Nat) : (cI h c d lo hi).2 = h.2 := rfl
theorem cI_ne {h : sd_H} {c d lo hi c' : Nat} (n : ¬ c' = c) : (cI h c d lo hi).1 c' = h.1 c' := funext fun k' => by rw [cI_i, if_neg fun q => n q.1]
theorem cD_ne {h : sd_H} {c d lo hi c' : Nat} (n : ¬ c' = c) : (cD h c d lo hi).2.1 c' = h.2.1 c' := funext fun k' => by rw [cD_d, if_neg fun q => n q.1]
theorem cI_eq {h : sd_H} {c d lo hi k : Nat} (n : lo ≤ k ∧ k < hi) : (cI h c d lo hi).1 c k = h.1 d k := by rw [cI_i, if_pos ⟨rfl, n⟩]
theorem cD_eq {h : sd_H} {c d lo hi k : Nat} (n : lo ≤ k ∧ k < hi) : (cD h c d lo hi).2.1 c k = h.2.1 d k := by rw [cD_d, if_pos ⟨rfl, n⟩]
theorem cI_ns {h : sd_H} {c d lo hi c' k : Nat} (n : k < lo ∨ hi ≤ k) : (cI h c d lo hi).1 c' k = h.1 c' k := by rw [cI_i, if_neg fun q => by omega]
theorem cD_ns {h : sd_H} {c d lo hi c' k : Nat} (n : k < lo ∨ hi ≤ k) : (cD h c d lo hi).2.1 c' k = h.2.1 c' k := by rw [cD_d, if_neg fun q => by omega]
theorem cI_nil (h : sd_H) {c d lo hi : Nat} (hh : hi ≤ lo) : cI h c d lo hi = h := H_ext (fun c' k' => by rw [cI_i, if_neg (by omega)]) (fun _ _ => rfl) rfl
theorem cD_nil (h : sd_H) {c d lo hi : Nat} (hh : hi ≤ lo) : cD h c d lo hi = h := H_ext (fun _ _ => rfl) (fun c' k' => by rw [cD_d, if_neg (by omega)]) rfl
theorem cI_st {h : sd_H} {c d lo hi : Nat} (n : lo < hi) (nd : ¬ d = c) : cI (wI h c lo (h.1 d lo)) c d (lo + 1) hi = cI h c d lo hi := by
  refine H_ext (fun c' k' => ?_) (fun _ _ => rfl) rfl
  rw [cI_i, cI_i, wI_ne nd, wI_i]
  by_cases hC : c' = c ∧ lo ≤ k' ∧ k' < hi
  · rw [if_pos hC]
    by_cases e : k' = lo
    · rw [e, if_neg (by omega), if_pos ⟨hC.1, rfl⟩]
    · rw [if_pos (by omega)]
  · rw [if_neg hC, if_neg (fun q => hC (by omega)), if_neg (fun q => hC (by omega))]
theorem cD_st {h : sd_H} {c d lo hi : Nat} (n : lo < hi) (nd : ¬ d = c) : cD (wD h c lo (h.2.1 d lo)) c d (lo + 1) hi = cD h c d lo hi := by
  refine H_ext (fun _ _ => rfl) (fun c' k' => ?_) rfl
  rw [cD_d, cD_d, wD_ne nd, wD_d]
  by_cases hC : c' = c ∧ lo ≤ k' ∧ k' < hi
  · rw [if_pos hC]
    by_cases e : k' = lo
    · rw [e, if_neg (by omega), if_pos ⟨hC.1, rfl⟩]
    · rw [if_pos (by omega)]
  · rw [if_neg hC, if_neg (fun q => hC (by omega)), if_neg (fun q => hC (by omega))]
/-! x's loops -/
theorem forget_L_e {P : Nat} : ∀ m fu a h, a + m = 144 → m < fu → XR_forgetWriters_L2 fu h P (nI a) = some (fI h (P + 4) a 144 (-1))
  | _, 0, _, _, _, q => absurd q (Nat.not_lt_zero _)
  | 0, fu + 1, a, h, e, _ => by
    unfold XR_forgetWriters_L2
    rw [lit 144, if_pos (nI_le (by omega) (by omega)), fI_nil h (-1) (by omega)]
  | m + 1, fu + 1, a, h, e, q => by
    unfold XR_forgetWriters_L2
    rw [lit 144, if_neg (show ¬ nI 144 ≤ nI a from nI_ge (by omega) (by omega)), inB_n (show a < 144 by omega) (by omega), gd_t, hb_s, nI_clamp (by omega), nI_1, forget_L_e m fu (a + 1) _ (by omega) (by omega), fI_st (by omega)]
theorem forget_e {P : Nat} (h : sd_H) : XR_forgetWriters h P = some (fI h (P + 4) 0 144 (-1)) := by
  unfold XR_forgetWriters
  rw [← nI_0]
  exact forget_L_e 144 FU 0 h (by omega) (by rw [FU_s]; omega)
theorem XO_begin_L_e {Q : Nat} : ∀ m fu a h, a + m = 3 → m < fu → XO_begin_L12 fu h Q (nI a) = some (fI h (Q + 1) a 3 0)
  | _, 0, _, _, _, q => absurd q (Nat.not_lt_zero _)
  | 0, fu + 1, a, h, e, _ => by
    unfold XO_begin_L12
    rw [lit 3, if_pos (nI_le (by omega) (by omega)), fI_nil h 0 (by omega)]
  | m + 1, fu + 1, a, h, e, q => by
    unfold XO_begin_L12
    rw [lit 3, if_neg (show ¬ nI 3 ≤ nI a from nI_ge (by omega) (by omega)), inB_n (show a < 3 by omega) (by omega), gd_t, hb_s, nI_clamp (by omega), nI_1, XO_begin_L_e m fu (a + 1) _ (by omega) (by omega), fI_st (by omega)]
theorem XO_begin_e {Q : Nat} (h : sd_H) : XO_begin h Q = some (fI (wI (wI h Q 3 0) Q 2 0) (Q + 1) 0 3 0) := by
  unfold XO_begin
  rw [hb_s, hb_s]
  exact XO_begin_L_e 3 FU 0 _ (by omega) (by rw [FU_s]; omega)
theorem begin_38_e : ∀ m fu a h, a + m = 60 → m < fu → XU_begin_L38 fu h (nI a) = XU_begin_L62 FU (fI h 103 a 60 0) 0
  | _, 0, _, _, _, q => absurd q (Nat.not_lt_zero _)
  | 0, fu + 1, a, h, e, _ => by
    unfold XU_begin_L38
    rw [lit 60, if_pos (nI_le (by omega) (by omega)), fI_nil h 0 (by omega)]
  | m + 1, fu + 1, a, h, e, q => by
    unfold XU_begin_L38
    rw [lit 60, if_neg (show ¬ nI 60 ≤ nI a from nI_ge (by omega) (by omega)), inB_n (show a < 60 by omega) (by omega), gd_t, hb_s, nI_clamp (by omega), nI_1, begin_38_e m fu (a + 1) _ (by omega) (by omega), fI_st (by omega)]
/-- all workers come to their first turns -/
theorem begin_62_e {P N S W dl : Nat} {hb0 v : sd_H} (hP : P = 1 ∨ P = 110 ∨ P = 115) (s2 : hb0.2.2 0 = some P) (ir : IR (hb0.1 (P + 1)) (hb0.1 (P + 2)) (hb0.2.1 (P + 3)) (v.1 127) (v.1 128) (v.2.1 129)) (iz : IZ (v.1 128)) (il : IL hb0 v N S) (e9 : hb0.1 100 9 = nI W) (e10 : hb0.1 100 10 = nI dl) (h1 : 1 ≤ W) (hW : W ≤ 4) (hd : dl ≤ 2) :
    ∀ m fu w h, w + m = W → m < fu → (∀ c, ¬ (104 ≤ c ∧ c ≤ 106) → h.1 c = hb0.1 c) → h.2 = hb0.2 → (∀ w', w' < w → PW N S W dl v h (st v S) w') →
      ∃ g1, XU_begin_L62 fu h (nI w) = some g1 ∧ (∀ c, ¬ (104 ≤ c ∧ c ≤ 106) → g1.1 c = hb0.1 c) ∧ g1.2 = hb0.2 ∧ ∀ w', w' < W → PW N S W dl v g1 (st v S) w'
  | _, 0, _, _, _, q, _, _, _ => absurd q (Nat.not_lt_zero _)
  | 0, fu + 1, w, h, e, _, hf, h2, hp => by
    unfold XU_begin_L62
    rw [hf 100 (by omega), e9, if_pos (nI_le (by omega) (by omega))]
    exact ⟨h, rfl, hf, h2, fun w' hw' => hp w' (by omega)⟩
  | m + 1, fu + 1, w, h, e, q, hf, h2, hp => by
    have pn : ¬ (104 ≤ P + 1 ∧ P + 1 ≤ 106) ∧ ¬ (104 ≤ P + 2 ∧ P + 2 ≤ 106) := by omega
    have il' : IL h v N S := IL_c (fun c a b => hf c (by omega)) rfl rfl rfl rfl rfl rfl rfl rfl rfl rfl rfl il
    have E := XU_enter_e (g := h) (w := w) (q := 0) (W := W) (dl := dl) hP (by rw [h2]; exact s2) (by rw [hf _ pn.1, hf _ pn.2, h2]; exact ir) iz il' (by rw [hf 100 (by omega)]; exact e9) (by rw [hf 100 (by omega)]; exact e10) h1 hW hd (show w < W by omega) (Nat.zero_le _)
    rw [Nat.sub_zero] at E
    obtain ⟨f1, f2, f3⟩ := en_f (g := h) (v := v) (N := N) (S := S) (dl := dl) (w := w) (o := fp (pw v N S W dl w) 0 N)
    have psw : ∀ w, ps (st v S) N W dl w = pw v N S W dl w := fun w => funext fun i => by
      unfold ps pw
      rw [st_i]
    have new : ∀ w', w' < w + 1 → PW N S W dl v (en h v N S dl w (fp (pw v N S W dl w) 0 N)) (st v S) w' := by
      intro w' hw'
      by_cases c : w' = w
      · subst c
        obtain ⟨y, _⟩ | ⟨q2, y, _, y3, y4, _⟩ := fps_c (pw v N S W dl w') N 0
        · rw [y]
          exact Or.inl ⟨by rw [psw]; exact y, en_n⟩
        · rw [y]
          unfold pw at y4
          rw [Bool.and_eq_true] at y4
          obtain ⟨x1, x2, x3⟩ := en_w (g := h) (v := v) (N := N) (S := S) (dl := dl) (w := w') (q := q2)
          cases y5 : fd v (tq N dl q2) 0 S with
          | none =>
            rw [y5] at y4
            exact absurd y4.2 (by decide)
          | some k2 =>
            rw [y5] at x2
            refine Or.inr ⟨q2, k2, 0, by rw [psw]; exact y, ?_, x1, x2, x3, fun q' _ _ _ => rfl⟩
            unfold st
            rw [y5]
            rfl
      · obtain ⟨a4, a5, a6⟩ := f3 w' c
        obtain ⟨b1, b2⟩ | ⟨q1, k1, j1, b1, b2, b3, b4, b5, b6⟩ := hp w' (by omega)
        · exact Or.inl ⟨b1, a4.trans b2⟩
        · exact Or.inr ⟨q1, k1, j1, b1, b2, a4.trans b3, a5.trans b4, a6.trans b5, b6⟩
    have rec_ := begin_62_e (v := v) (N := N) (S := S) hP s2 ir iz il e9 e10 h1 hW hd m fu (w + 1) (en h v N S dl w (fp (pw v N S W dl w) 0 N)) (by omega) (by omega) (fun c hc => (f1 c (by omega) (by omega) (by omega)).trans (hf c hc)) (f2.trans h2) new
    unfold XU_begin_L62 XU_begin_B95
    rw [hf 100 (by omega), e9, if_neg (nI_ge (by omega) (by omega)), e10, itp (show (nI dl = 2) = (dl = 2) from nI_eqI (b := 2) (by omega) (by omega)), hf 6 (by omega), il.2.2.1, nI_1]
    by_cases c : dl = 2
    · rw [if_pos c] at E ⊢
      rw [E, b1_s]
      exact rec_
    · rw [if_neg c] at E ⊢
      rw [← nI_0, E, b1_s]
      exact rec_
/-- x's heap before its workers come -/
def xb (g : sd_H) (P Q W dl : Nat) : sd_H := fI (fI (wI (wI (fI (wI (wI (wP (wP g 0 (some P)) 1 (some Q)) 100 9 (nI W)) 100 10 (nI dl)) (P + 4) 0 144 (-1)) Q 3 0) Q 2 0) (Q + 1) 0 3 0) 103 0 60 0
theorem XU_begin_e {P Q : Nat} (g : sd_H) (W dl : Nat) (hP : P = 1 ∨ P = 110 ∨ P = 115) (hQ : Q = 107 ∨ Q = 120 ∨ Q = 123) : XU_begin g P Q (nI W) (nI dl) = XU_begin_L62 FU (xb g P Q W dl) 0 := by
  unfold XU_begin
  rw [hb_s, hb_s, hb_s, hb_s, op_e (show (wI (wI (wP (wP g 0 (some P)) 1 (some Q)) 100 9 (nI W)) 100 10 (nI dl)).2.2 0 = some P from rfl) (P_sh hP), forget_e, b1_s, op_e (show (fI (wI (wI (wP (wP g 0 (some P)) 1 (some Q)) 100 9 (nI W)) 100 10 (nI dl)) (P + 4) 0 144 (-1)).2.2 1 = some Q from rfl) (Q_sh hQ), XO_begin_e, b1_s, ← nI_0, begin_38_e 60 FU 0 _ (by omega) (by rw [FU_s]; omega)]
  rfl
theorem xb_f {P Q W dl : Nat} {g : sd_H} (hP : P = 1 ∨ P = 110 ∨ P = 115) (hQ : Q = 107 ∨ Q = 120 ∨ Q = 123) : (∀ c, ¬ c = 100 → ¬ c = 103 → ¬ c = P + 4 → ¬ (Q ≤ c ∧ c ≤ Q + 1) → (xb g P Q W dl).1 c = g.1 c) ∧ (xb g P Q W dl).2.1 = g.2.1 ∧ (xb g P Q W dl).2.2 0 = some P ∧ (xb g P Q W dl).2.2 1 = some Q ∧
    (xb g P Q W dl).1 100 9 = nI W ∧ (xb g P Q W dl).1 100 10 = nI dl ∧ (∀ a, a < 144 → (xb g P Q W dl).1 (P + 4) a = -1) ∧ (xb g P Q W dl).1 Q 3 = 0 ∧ (xb g P Q W dl).1 Q 2 = 0 ∧ (∀ f, f < 3 → (xb g P Q W dl).1 (Q + 1) f = 0) ∧ ∀ a, a < 60 → (xb g P Q W dl).1 103 a = 0 := by
  unfold xb
  refine ⟨fun c h1 h2 h3 h4 => ?_, rfl, rfl, rfl, ?_, ?_, fun a ha => ?_, ?_, ?_, fun f hf => ?_, fun a ha => ?_⟩
  · rw [fI_ne h2, fI_ne (by omega), wI_ne (by omega), wI_ne (by omega), fI_ne h3, wI_ne h1, wI_ne h1]
    rfl
  · rw [fI_ne (by omega), fI_ne (by omega), wI_ne (by omega), wI_ne (by omega), fI_ne (by omega), wI_ns (by omega), wI_eq]
  · rw [fI_ne (by omega), fI_ne (by omega), wI_ne (by omega), wI_ne (by omega), fI_ne (by omega), wI_eq]
  · rw [fI_ne (by omega), fI_ne (by omega), wI_ne (by omega), wI_ne (by omega), fI_eq ⟨Nat.zero_le _, ha⟩]
  · rw [fI_ne (by omega), fI_ne (by omega), wI_ns (by omega), wI_eq]
  · rw [fI_ne (by omega), fI_ne (by omega), wI_eq]
  · rw [fI_ne (by omega), fI_eq ⟨Nat.zero_le _, hf⟩]
  · rw [fI_eq ⟨Nat.zero_le _, ha⟩]
/-! the model's -/
theorem begins_88_e {g : sd_H} {N S : Nat} : ∀ m fu t v, IZ (v.1 128) → IL g v N S → t + m = N → m < fu → ∃ v', YM_begins_L88 fu v (nI t) = some v' ∧ (∀ c, ¬ c = 152 → v'.1 c = v.1 c) ∧ v'.2 = v.2 ∧ (∀ i, i < t → v'.1 152 i = v.1 152 i) ∧ ∀ i, t ≤ i → i < N → v'.1 152 i = cdo (st v S i)
  | _, 0, _, _, _, _, _, q => absurd q (Nat.not_lt_zero _)
  | 0, fu + 1, t, v, iz, il, e, _ => by
    have hN := il.1
    unfold YM_begins_L88
    rw [il.2.2.2.1, if_pos (nI_le (by omega) (by omega))]
    exact ⟨v, rfl, fun _ _ => rfl, rfl, fun _ _ => rfl, fun i h1 h2 => absurd h2 (by omega)⟩
  | m + 1, fu + 1, t, v, iz, il, e, q => by
    have hN := il.1
    have il' : IL g (wI v 152 t (pt (fd v t 0 S))) N S := IL_c (fun _ _ _ => rfl) (wI_ne (by omega)) (wI_ne (by omega)) (wI_ne (by omega)) (wI_ne (by omega)) (wI_ne (by omega)) (wI_ne (by omega)) (wI_ne (by omega)) (wI_ne (by omega)) (wI_ne (by omega)) (by rw [wI_ne (by omega)]) (by rw [wI_ne (by omega)]) il
    have d : dn (wI v 152 t (pt (fd v t 0 S))) = dn v := dn_c (wI_ne (by omega)) (wI_ne (by omega)) rfl (wI_ne (by omega)) (wI_ne (by omega)) (wI_ne (by omega)) (by rw [wI_ne (by omega)])
    obtain ⟨v', h1, h2, h3, h4, h5⟩ := begins_88_e m fu (t + 1) (wI v 152 t (pt (fd v t 0 S))) (by rw [wI_ne (by omega)]; exact iz) il' (by omega) (by omega)
    have F := YM_firstFrom_e (k := 0) iz il (show t < 10 by omega) (Nat.zero_le _)
    rw [Nat.sub_zero] at F
    unfold YM_begins_L88
    rw [il.2.2.2.1, if_neg (nI_ge (by omega) (by omega)), ← nI_0, F, b1_s, inB_n (show t < 10 by omega) (by omega), gd_t, hb_s, nI_clamp (by omega), nI_1, h1]
    refine ⟨v', rfl, fun c hc => (h2 c hc).trans (wI_ne hc), h3, fun i hi => ?_, fun i i1 i2 => ?_⟩
    · rw [h4 i (by omega), wI_ns (by omega)]
    · by_cases c : i = t
      · subst c
        rw [h4 i (by omega), wI_eq]
        unfold st
        cases fd v i 0 S <;> rfl
      · rw [h5 i (by omega) i2]
        unfold st
        rw [fd_d d]
theorem begins_66_e : ∀ m fu a h, a + m = 1440 → m < fu → YM_begins_L66 fu h (nI a) = YM_begins_L88 FU (fI h 149 a 1440 0) 0
  | _, 0, _, _, _, q => absurd q (Nat.not_lt_zero _)
  | 0, fu + 1, a, h, e, _ => by
    unfold YM_begins_L66
    rw [lit 1440, if_pos (nI_le (by omega) (by omega)), fI_nil h 0 (by omega)]
  | m + 1, fu + 1, a, h, e, q => by
    unfold YM_begins_L66
    rw [lit 1440, if_neg (show ¬ nI 1440 ≤ nI a from nI_ge (by omega) (by omega)), inB_n (show a < 1440 by omega) (by omega), gd_t, hb_s, nI_clamp (by omega), nI_1, begins_66_e m fu (a + 1) _ (by omega) (by omega), fI_st (by omega)]
theorem begins_32_e : ∀ m fu a h, a + m = 144 → m < fu → YM_begins_L32 fu h (nI a) = YM_begins_L66 FU (cD (fI h 130 a 144 (-1)) 147 129 a 144) 0
  | _, 0, _, _, _, q => absurd q (Nat.not_lt_zero _)
  | 0, fu + 1, a, h, e, _ => by
    unfold YM_begins_L32
    rw [lit 144, if_pos (nI_le (by omega) (by omega)), fI_nil h (-1) (by omega), cD_nil h (by omega)]
  | m + 1, fu + 1, a, h, e, q => by
    have k : cD (fI (wD (wI h 130 a (-1)) 147 a (h.2.1 129 a)) 130 (a + 1) 144 (-1)) 147 129 (a + 1) 144 = cD (fI h 130 a 144 (-1)) 147 129 a 144 := by
      rw [fI_wD, fI_st (by omega)]
      exact cD_st (h := fI h 130 a 144 (-1)) (c := 147) (d := 129) (by omega) (by omega)
    unfold YM_begins_L32
    rw [lit 144, if_neg (show ¬ nI 144 ≤ nI a from nI_ge (by omega) (by omega)), inB_n (show a < 144 by omega) (by omega), gd_t, hb_s, gd_t, gd_t, hb_s, nI_clamp (by omega), nI_1, wI_d, begins_32_e m fu (a + 1) _ (by omega) (by omega), k]
theorem begins_12_e : ∀ m fu a h, a + m = 3 → m < fu → YM_begins_L12 fu h (nI a) = YM_begins_L32 FU (fI h 150 a 3 0) 0
  | _, 0, _, _, _, q => absurd q (Nat.not_lt_zero _)
  | 0, fu + 1, a, h, e, _ => by
    unfold YM_begins_L12
    rw [lit 3, if_pos (nI_le (by omega) (by omega)), fI_nil h 0 (by omega)]
  | m + 1, fu + 1, a, h, e, q => by
    unfold YM_begins_L12
    rw [lit 3, if_neg (show ¬ nI 3 ≤ nI a from nI_ge (by omega) (by omega)), inB_n (show a < 3 by omega) (by omega), gd_t, hb_s, nI_clamp (by omega), nI_1, begins_12_e m fu (a + 1) _ (by omega) (by omega), fI_st (by omega)]
/-- the model's heap before its turns are placed -/
def mb (v : sd_H) : sd_H := fI (cD (fI (fI (wI (wI v 126 34 0) 126 37 0) 150 0 3 0) 130 0 144 (-1)) 147 129 0 144) 149 0 1440 0
theorem YM_begins_e0 (v : sd_H) : YM_begins v = YM_begins_L88 FU (mb v) 0 := by
  unfold YM_begins
  rw [hb_s, hb_s, ← nI_0, begins_12_e 3 FU 0 _ (by omega) (by rw [FU_s]; omega), ← nI_0, begins_32_e 144 FU 0 _ (by omega) (by rw [FU_s]; omega), ← nI_0, begins_66_e 1440 FU 0 _ (by omega) (by rw [FU_s]; omega)]
  rfl
theorem mb_f {v : sd_H} : (∀ c, ¬ c = 126 → ¬ c = 130 → ¬ (149 ≤ c ∧ c ≤ 152) → (mb v).1 c = v.1 c) ∧ (∀ k, ¬ k = 34 → ¬ k = 37 → (mb v).1 126 k = v.1 126 k) ∧ (∀ c, ¬ c = 147 → (mb v).2.1 c = v.2.1 c) ∧ (mb v).2.2 = v.2.2 ∧
    (∀ a, a < 144 → (mb v).2.1 147 a = v.2.1 129 a) ∧ (∀ a, a < 144 → (mb v).1 130 a = -1) ∧ (∀ a, a < 1440 → (mb v).1 149 a = 0) ∧ (∀ f, f < 3 → (mb v).1 150 f = 0) ∧ (mb v).1 126 34 = 0 ∧ (mb v).1 126 37 = 0 := by
  unfold mb
  refine ⟨fun c h1 h2 h3 => ?_, fun k h1 h2 => ?_, fun c h1 => ?_, rfl, fun a ha => ?_, fun a ha => ?_, fun a ha => ?_, fun f hf => ?_, ?_, ?_⟩
  · rw [fI_ne (by omega)]
    rw [cD_ii, fI_ne h2, fI_ne (by omega), wI_ne h1, wI_ne h1]
  · rw [fI_ne (by omega)]
    rw [cD_ii, fI_ne (by omega), fI_ne (by omega), wI_ns h2, wI_ns h1]
  · rw [fI_d, cD_ne h1]
    rfl
  · rw [fI_d, cD_eq ⟨Nat.zero_le _, ha⟩]
    rfl
  · rw [fI_ne (by omega)]
    rw [cD_ii, fI_eq ⟨Nat.zero_le _, ha⟩]
  · rw [fI_eq ⟨Nat.zero_le _, ha⟩]
  · rw [fI_ne (by omega)]
    rw [cD_ii, fI_ne (by omega), fI_eq ⟨Nat.zero_le _, hf⟩]
  · rw [fI_ne (by omega)]
    rw [cD_ii, fI_ne (by omega), fI_ne (by omega), wI_ns (by omega), wI_eq]
  · rw [fI_ne (by omega)]
    rw [cD_ii, fI_ne (by omega), fI_ne (by omega), wI_eq]
/-- what stands before a run -/
def RB (P : Nat) (T : Nat → Int32) (mx : Bool) (N S : Nat) (g v : sd_H) : Prop :=
  (P = 1 ∨ P = 110 ∨ P = 115) ∧ IR (g.1 (P + 1)) (g.1 (P + 2)) (g.2.1 (P + 3)) (v.1 127) (v.1 128) (v.2.1 129) ∧ IC (v.2.1 129) ∧ IL g v N S ∧ IZ (v.1 128) ∧ (∀ r, r < 6 → g.1 101 r = T r) ∧ v.1 126 33 = bi mx ∧
  (mx = false → ∀ r, r < 6 → T r = 1) ∧ (mx = true → ∀ r, r < 6 → v.1 146 r = T r)
theorem begin_e {P Q N S W dl : Nat} {T : Nat → Int32} {mx : Bool} {g v : sd_H} (rb : RB P T mx N S g v) (hQ : Q = 107 ∨ Q = 120 ∨ Q = 123) (h1 : 1 ≤ W) (hW : W ≤ 4) (hd : dl ≤ 2) :
    ∃ g1 v1, XU_begin g P Q (nI W) (nI dl) = some g1 ∧ YM_begins v = some v1 ∧ SB P Q N S W dl T mx g1 v1 ∧ SS P Q N S W dl T mx g1 v1 g1 v1 (st v1 S) ∧
      (∀ c, ¬ c = 100 → ¬ (103 ≤ c ∧ c ≤ 106) → ¬ c = P + 4 → ¬ (Q ≤ c ∧ c ≤ Q + 1) → g1.1 c = g.1 c) ∧ g1.2.1 = g.2.1 ∧
      (∀ c, ¬ c = 126 → ¬ c = 130 → ¬ (149 ≤ c ∧ c ≤ 152) → v1.1 c = v.1 c) ∧ (∀ k, ¬ k = 34 → ¬ k = 37 → v1.1 126 k = v.1 126 k) ∧ (∀ c, ¬ c = 147 → v1.2.1 c = v.2.1 c) ∧ v1.2.2 = v.2.2 := by
  obtain ⟨hP, ir, ic, il, iz, e101, e33, mf, mt⟩ := rb
  have hN := il.1
  have hS := il.2.1
  obtain ⟨b1, b2, b3, b4, b5, b6, b7, b8, b9, ba, bb⟩ := xb_f (g := g) (W := W) (dl := dl) hP hQ
  obtain ⟨m1, m2, m3, m4, m5, m6, m7, m8, m9, ma⟩ := mb_f (v := v)
  have ilm : IL g (mb v) N S := IL_c (fun _ _ _ => rfl) (m1 132 (by omega) (by omega) (by omega)) (m1 133 (by omega) (by omega) (by omega)) (m1 134 (by omega) (by omega) (by omega)) (m1 135 (by omega) (by omega) (by omega)) (m1 136 (by omega) (by omega) (by omega)) (m1 137 (by omega) (by omega) (by omega)) (m1 138 (by omega) (by omega) (by omega)) (m1 139 (by omega) (by omega) (by omega)) (m1 140 (by omega) (by omega) (by omega)) (m2 6 (by omega) (by omega)) (m2 7 (by omega) (by omega)) il
  obtain ⟨v1, B, w1, w2, _, w3⟩ := begins_88_e (g := g) N FU 0 (mb v) (by rw [m1 128 (by omega) (by omega) (by omega)]; exact iz) ilm (by omega) (by rw [FU_s]; omega)
  have c1 : ∀ c, ¬ c = 126 → ¬ c = 130 → ¬ (149 ≤ c ∧ c ≤ 152) → v1.1 c = v.1 c := fun c a b d => (w1 c (by omega)).trans (m1 c a b d)
  have k1 : ∀ k, ¬ k = 34 → ¬ k = 37 → v1.1 126 k = v.1 126 k := fun k a b => by rw [w1 126 (by omega)]; exact m2 k a b
  have d1 : ∀ c, ¬ c = 147 → v1.2.1 c = v.2.1 c := fun c a => by rw [w2]; exact m3 c a
  have ilv : IL (xb g P Q W dl) v1 N S := IL_c (fun c a b => b1 c (by omega) (by omega) (by omega) (by omega)) (c1 132 (by omega) (by omega) (by omega)) (c1 133 (by omega) (by omega) (by omega)) (c1 134 (by omega) (by omega) (by omega)) (c1 135 (by omega) (by omega) (by omega)) (c1 136 (by omega) (by omega) (by omega)) (c1 137 (by omega) (by omega) (by omega)) (c1 138 (by omega) (by omega) (by omega)) (c1 139 (by omega) (by omega) (by omega)) (c1 140 (by omega) (by omega) (by omega)) (k1 6 (by omega) (by omega)) (k1 7 (by omega) (by omega)) il
  have izv : IZ (v1.1 128) := by rw [c1 128 (by omega) (by omega) (by omega)]; exact iz
  have irv : IR ((xb g P Q W dl).1 (P + 1)) ((xb g P Q W dl).1 (P + 2)) ((xb g P Q W dl).2.1 (P + 3)) (v1.1 127) (v1.1 128) (v1.2.1 129) := by
    rw [b1 (P + 1) (by omega) (by omega) (by omega) (by omega), b1 (P + 2) (by omega) (by omega) (by omega) (by omega), b2, c1 127 (by omega) (by omega) (by omega), c1 128 (by omega) (by omega) (by omega), d1 129 (by omega)]
    exact ir
  obtain ⟨g1, X, x1, x2, x3⟩ := begin_62_e (v := v1) hP b3 irv izv ilv b5 b6 h1 hW hd W FU 0 (xb g P Q W dl) (by omega) (by rw [FU_s]; omega) (fun _ _ => rfl) rfl (fun w' h => absurd h (Nat.not_lt_zero _))
  have il1 : IL g1 v1 N S := IL_c (fun c a b => x1 c (by omega)) rfl rfl rfl rfl rfl rfl rfl rfl rfl rfl rfl ilv
  have dnm : dn v1 = dn (mb v) := dn_c (w1 127 (by omega)) (w1 128 (by omega)) (by rw [w2]) (w1 134 (by omega)) (w1 135 (by omega)) (w1 136 (by omega)) (by rw [w1 126 (by omega)])
  have n33 : ∀ k, k < S → ∃ n, 1 ≤ n ∧ n ≤ 5 ∧ v1.1 133 k = nI n := fun k hk => (il1.2.2.2.2.2.2 k hk).1.2.2.2.2.2.2.1
  have i152 : ∀ t, t < N → v1.1 152 t = cdo (st v1 S t) := fun t ht => by
    rw [w3 t (Nat.zero_le _) ht]
    unfold st
    rw [fd_d dnm]
  have sN : ∀ f : Nat → Nat, (∀ i, f i ≤ 1) → sm f N ≤ N := fun f hf => by
    have := sm_le (f := f) N (fun i _ => hf i)
    omega
  refine ⟨g1, v1, by rw [XU_begin_e g W dl hP hQ]; exact X, by rw [YM_begins_e0]; exact B, ⟨⟨hP, by rw [x2]; exact b3, il1, izv, fun r hr => ?_, ?_, mf, fun e r hr => ?_⟩, hQ, by rw [x2]; exact b4, ?_, ?_, h1, hW, hd, n33⟩,
    ⟨XFR_r P Q g1, MFR_r v1, ⟨?_, ?_, fun _ _ _ _ => rfl, fun a ha => ?_, fun t r ht hr => ?_, fun e r hr _ i hi => ?_⟩, ?_, ⟨0, ?_, ?_, ?_, fun p hp => absurd hp (Nat.not_lt_zero _)⟩, fun f hf => ?_, i152, fun t k j ht e => ?_, x3⟩, fun c a1 a2 a3 a4 => (x1 c (by omega)).trans (b1 c a1 (by omega) a3 a4), by rw [x2]; exact b2, c1, k1, d1, by rw [w2]; exact m4⟩
  · rw [x1 101 (by omega), b1 101 (by omega) (by omega) (by omega) (by omega)]
    exact e101 r hr
  · rw [k1 33 (by omega) (by omega)]
    exact e33
  · rw [c1 146 (by omega) (by omega) (by omega)]
    exact mt e r hr
  · rw [x1 100 (by omega)]
    exact b5
  · rw [x1 100 (by omega)]
    exact b6
  · rw [x1 (P + 1) (by omega), x1 (P + 2) (by omega), x2]
    exact irv
  · rw [d1 129 (by omega)]
    exact ic
  · rw [x1 (P + 4) (by omega), b7 a ha, w1 130 (by omega), m6 a ha]
  · refine ⟨0, by omega, ?_, Or.inl rfl, fun i hi => ?_⟩
    · rw [x1 103 (by omega), bb (t * 6 + r) (by omega)]
      rfl
    · rw [Nat.zero_testBit]
      exact ⟨by rw [w1 149 (by omega), m7 _ (by omega)]; rfl, fun h => by cases h⟩
  · rw [w2, m5 _ (by omega), m3 129 (by omega)]
  · rw [x1 Q (by omega), b8, w1 126 (by omega), m9]
  · rw [Nat.zero_add]
    refine sN _ fun i => ?_
    unfold lz
    split <;> omega
  · rw [x1 Q (by omega), b9]
    rfl
  · rw [w1 126 (by omega), ma]
    rfl
  · rw [x1 (Q + 1) (by omega), ba f hf, w1 150 (by omega), m8 f hf]
  · unfold st at e
    cases y : fd v1 t 0 S with
    | none =>
      rw [y] at e
      cases e
    | some k' =>
      rw [y] at e
      cases e
      have := (fd_c v1 t _ _ _ y).2.1
      obtain ⟨n, a, b, c⟩ := n33 k (by omega)
      exact ⟨by omega, by omega, n, b, by omega, c⟩
