/-! ===== count ===== -/
def sr (v : sd_H) (N S : Nat) : Nat → Nat → Nat
  | _, 0 => 0
  | r, m + 1 => (if JU v N S r (v.1 127 r) = 4 then 1 else 0) + sr v N S (r + 1) m
theorem sr_le (v : sd_H) (N S : Nat) : ∀ m r, sr v N S r m ≤ m
  | 0, _ => Nat.le_refl _
  | m + 1, r => by
    have := sr_le v N S m (r + 1)
    unfold sr
    split <;> omega
theorem sr_c {g h : sd_H} (q : QQ g h) (N S : Nat) : ∀ m r, sr g N S r m = sr h N S r m
  | 0, _ => rfl
  | m + 1, r => by
    unfold sr
    rw [JU_c q, sr_c q N S m (r + 1), (QQ_sl q).2.1]
theorem XT_serialRows_L11_e {g v : sd_H} {N S : Nat} (iz : IZ (v.1 128)) (il : IL v v N S) (ilg : IL g v N S) (hfm : ∀ r, r < 6 → g.1 2 r = v.1 127 r) (f : FS g (q_al v)) : ∀ m fu r n, r + m = 6 → m < fu →
    XT_serialRows_L11 fu g (nI n) (nI r) = some (g, nI (n + sr v N S r m))
  | _, 0, _, _, _, q => absurd q (Nat.not_lt_zero _)
  | 0, fu + 1, r, n, e, _ => by
    unfold XT_serialRows_L11
    rw [show (6 : Int32) = nI 6 from rfl, if_pos (nI_le (by omega) (by omega))]
    rfl
  | m + 1, fu + 1, r, n, e, q => by
    unfold XT_serialRows_L11 XT_serialRows_B41 sr
    rw [show (6 : Int32) = nI 6 from rfl, if_neg (nI_ge (by omega) (by omega)), inB_n (by omega) (by omega), gd_t, nI_clamp (by omega), hfm r (by omega), XY_judge_e iz il ilg hfm f (by omega), b1_s, nI_1, nI_1]
    by_cases c : JU v N S r (v.1 127 r) = 4
    · rw [if_pos c, if_pos c, XT_serialRows_L11_e iz il ilg hfm f m fu (r + 1) (n + 1) (by omega) (by omega)]
      exact congrArg (fun a => some (g, nI a)) (by omega)
    · rw [if_neg c, if_neg c, XT_serialRows_L11_e iz il ilg hfm f m fu (r + 1) n (by omega) (by omega)]
      exact congrArg (fun a => some (g, nI a)) (by omega)
theorem X_serials {h : sd_H} (iv : Iv h h) {N S : Nat} (il : IL h h N S) : ∃ g, XT_serialRows h = some (g, nI (sr h N S 0 6)) ∧ QQ g h := by
  obtain ⟨g, e, q, xf, fs, ilg, fm, _⟩ := X_ref iv il
  have l := XT_serialRows_L11_e iv.2.2.1 il ilg fm fs 6 FU 0 0 (by omega) (by rw [FU_s]; omega)
  rw [Nat.zero_add, nI_0] at l
  refine ⟨g, ?_, q⟩
  unfold XT_serialRows
  rw [e, b1_s]
  exact l
theorem YM_serials_L4_e {h : sd_H} {N S : Nat} (il : IL h h N S) : ∀ m fu r n (x : sd_H), r + m = 6 → m < fu → QQ x h → ∃ w, YM_serials_L4 fu x (nI n) (nI r) = some (w, nI (n + sr h N S r m)) ∧ QQ w h
  | _, 0, _, _, _, _, q, _ => absurd q (Nat.not_lt_zero _)
  | 0, fu + 1, r, n, x, e, _, k => by
    unfold YM_serials_L4
    rw [show (6 : Int32) = nI 6 from rfl, if_pos (nI_le (by omega) (by omega))]
    exact ⟨x, rfl, k⟩
  | m + 1, fu + 1, r, n, x, e, q, k => by
    obtain ⟨w, e1, q1⟩ := M_verdictOf k.1 (QQ_il k il) (show r < 6 by omega)
    have k1 := QQ_t q1 k
    unfold YM_serials_L4 YM_serials_B25 sr
    rw [show (6 : Int32) = nI 6 from rfl, if_neg (nI_ge (by omega) (by omega)), e1, b2_s, JU_c k, (QQ_sl k).2.1, nI_1, nI_1]
    by_cases c : JU h N S r (h.1 127 r) = 4
    · rw [if_pos c, if_pos c]
      obtain ⟨w', e2, q2⟩ := YM_serials_L4_e il m fu (r + 1) (n + 1) w (by omega) (by omega) k1
      exact ⟨w', by rw [e2]; exact congrArg (fun a => some (w', nI a)) (by omega), q2⟩
    · rw [if_neg c, if_neg c, Int32.add_zero]
      obtain ⟨w', e2, q2⟩ := YM_serials_L4_e il m fu (r + 1) n w (by omega) (by omega) k1
      exact ⟨w', by rw [e2]; exact congrArg (fun a => some (w', nI a)) (by omega), q2⟩
theorem M_serials {h : sd_H} (iv : Iv h h) {N S : Nat} (il : IL h h N S) : ∃ w, YM_serials h = some (w, nI (sr h N S 0 6)) ∧ QQ w h := by
  obtain ⟨w, e, q⟩ := YM_serials_L4_e il 6 FU 0 0 h (by omega) (by rw [FU_s]; omega) (QQ_r iv)
  rw [Nat.zero_add, nI_0] at e
  exact ⟨w, e, q⟩
/-- rows that are missing -/
def mi (v : sd_H) : Nat → Nat → Nat
  | _, 0 => 0
  | r, m + 1 => (if v.1 127 r = -1 then 1 else 0) + mi v (r + 1) m
theorem XR_missing_L4_e {h : sd_H} (iv : Iv h h) : ∀ m fu r n, r + m = 6 → m < fu → XR_missing_L4 h fu 1 (nI n) (nI r) = some (nI (n + mi h r m))
  | _, 0, _, _, _, q => absurd q (Nat.not_lt_zero _)
  | 0, fu + 1, r, n, e, _ => by
    unfold XR_missing_L4
    rw [show (6 : Int32) = nI 6 from rfl, if_pos (nI_le (by omega) (by omega))]
    rfl
  | m + 1, fu + 1, r, n, e, q => by
    unfold XR_missing_L4 XR_missing_B21 mi
    rw [show (6 : Int32) = nI 6 from rfl, if_neg (nI_ge (by omega) (by omega)), nI_1, nI_1]
    rcases row_cs iv (show r < 6 by omega) with ⟨e1, e2, e3⟩ | ⟨f, z, hf, hn, e1, e2, e3, e4, e5⟩
    · rw [XR_isMissing_t (by omega) e1, b1_s, if_neg (show ¬ (1 : Int32) = 0 by decide), if_pos e2, XR_missing_L4_e iv m fu (r + 1) (n + 1) (by omega) (by omega)]
      exact congrArg (fun a => some (nI a)) (by omega)
    · rw [XR_isMissing_f (by omega) hf e1, b1_s, if_pos rfl, if_neg (by rw [e2]; exact nm1 (by omega)), XR_missing_L4_e iv m fu (r + 1) n (by omega) (by omega)]
      exact congrArg (fun a => some (nI a)) (by omega)
theorem YM_missing_L4_e {h : sd_H} : ∀ m fu r n, r + m = 6 → m < fu → YM_missing_L4 h fu (nI n) (nI r) = some (nI (n + mi h r m))
  | _, 0, _, _, _, q => absurd q (Nat.not_lt_zero _)
  | 0, fu + 1, r, n, e, _ => by
    unfold YM_missing_L4
    rw [show (6 : Int32) = nI 6 from rfl, if_pos (nI_le (by omega) (by omega))]
    rfl
  | m + 1, fu + 1, r, n, e, q => by
    unfold YM_missing_L4 YM_missing_B26 mi
    rw [show (6 : Int32) = nI 6 from rfl, if_neg (nI_ge (by omega) (by omega)), inB_n (by omega) (by omega), gd_t, nI_clamp (by omega), nI_1, nI_1]
    by_cases c : h.1 127 r = -1
    · rw [if_pos c, if_pos c, YM_missing_L4_e m fu (r + 1) (n + 1) (by omega) (by omega)]
      exact congrArg (fun a => some (nI a)) (by omega)
    · rw [if_neg c, if_neg c, Int32.add_zero, YM_missing_L4_e m fu (r + 1) n (by omega) (by omega)]
      exact congrArg (fun a => some (nI a)) (by omega)
/-- what count() answers -/
def CT (v : sd_H) (N S : Nat) (a : Int32) : Int32 :=
  if a = 0 then nI N else if a = 1 then nI S else if a = 2 then v.1 126 18 else if a = 3 then v.1 126 20 else if a = 4 then (if sr v N S 0 6 = 0 then 1 else 0) else if a = 5 then nI (sr v N S 0 6) else
  if a = 6 then v.1 126 34 else if a = 7 then nI (mi v 0 6) else if a = 8 then v.1 126 4 else -2
theorem mi_c {g h : sd_H} (q : QQ g h) : ∀ m r, mi g r m = mi h r m
  | 0, _ => rfl
  | m + 1, r => by
    unfold mi
    rw [(QQ_sl q).2.1, mi_c q m (r + 1)]
theorem CT_c {g h : sd_H} (q : QQ g h) (N S : Nat) (a : Int32) : CT g N S a = CT h N S a := by
  unfold CT
  rw [sr_c q, mi_c q, q.2.2.2.2 18 (by omega) (by omega), q.2.2.2.2 20 (by omega) (by omega), q.2.2.2.2 34 (by omega) (by omega), q.2.2.2.2 4 (by omega) (by omega)]
theorem X_count {h : sd_H} (iv : Iv h h) {N S : Nat} (il : IL h h N S) (a : Int32) : ∃ g, XT_count h a = some (g, CT h N S a) ∧ QQ g h := by
  have r := QQ_r iv
  obtain ⟨g, e, q⟩ := X_serials iv il
  obtain ⟨o, n, cs, ho, hn, h1, h2, h3, h4, _⟩ := (show IH h h S by
    obtain ⟨N', S', il', ih'⟩ := iv.2.2.2.2.1
    have : S' = S := (nI_eq (by have := il'.2.1; omega) (by have := il.2.1; omega)).mp (il'.2.2.2.2.2.1.symm.trans il.2.2.2.2.2.1)
    subst this
    exact ih')
  obtain ⟨n', hn', t1, t2, _⟩ := iv.2.2.2.2.2.1
  have sl := sr_le h N S 6 0
  unfold XT_count CT
  by_cases a0 : a = 0
  · rw [if_pos a0, if_pos a0, il.2.2.1]
    exact ⟨h, rfl, r⟩
  by_cases a1 : a = 1
  · rw [if_neg a0, if_neg a0, if_pos a1, if_pos a1, il.2.2.2.2.1]
    exact ⟨h, rfl, r⟩
  by_cases a2 : a = 2
  · rw [if_neg a0, if_neg a0, if_neg a1, if_neg a1, if_pos a2, if_pos a2, h2, h3]
    exact ⟨h, rfl, r⟩
  by_cases a3 : a = 3
  · rw [if_neg a0, if_neg a0, if_neg a1, if_neg a1, if_neg a2, if_neg a2, if_pos a3, if_pos a3, t1, t2]
    exact ⟨h, rfl, r⟩
  by_cases a4 : a = 4
  · rw [if_neg a0, if_neg a0, if_neg a1, if_neg a1, if_neg a2, if_neg a2, if_neg a3, if_neg a3, if_pos a4, if_pos a4, e, b2_s, itp (n0eq (k := sr h N S 0 6) (by omega))]
    refine ⟨g, ?_, q⟩
    split <;> rfl
  by_cases a5 : a = 5
  · rw [if_neg a0, if_neg a0, if_neg a1, if_neg a1, if_neg a2, if_neg a2, if_neg a3, if_neg a3, if_neg a4, if_neg a4, if_pos a5, if_pos a5, e, b2_s]
    exact ⟨g, rfl, q⟩
  rw [if_neg a0, if_neg a0, if_neg a1, if_neg a1, if_neg a2, if_neg a2, if_neg a3, if_neg a3, if_neg a4, if_neg a4, if_neg a5, if_neg a5]
  by_cases a6 : a = 6
  · rw [if_pos a6, if_pos a6, iv.2.2.2.2.2.2.2.1.1]
    exact ⟨h, rfl, r⟩
  rw [if_neg a6, if_neg a6]
  by_cases a7 : a = 7
  · have m := XR_missing_L4_e iv 6 FU 0 0 (by omega) (by rw [FU_s]; omega)
    rw [Nat.zero_add, nI_0] at m
    unfold XR_missing
    rw [if_pos a7, if_pos a7, m, b1_s]
    exact ⟨h, rfl, r⟩
  rw [if_neg a7, if_neg a7]
  by_cases a8 : a = 8
  · rw [if_pos a8, if_pos a8, iv.2.2.2.2.2.2.1]
    exact ⟨h, rfl, r⟩
  · rw [if_neg a8, if_neg a8]
    exact ⟨h, rfl, r⟩
theorem M_count {h : sd_H} (iv : Iv h h) {N S : Nat} (il : IL h h N S) (a : Int32) : ∃ g, YM_count h a = some (g, CT h N S a) ∧ QQ g h := by
  have r := QQ_r iv
  obtain ⟨g, e, q⟩ := M_serials iv il
  have sl := sr_le h N S 6 0
  unfold YM_count CT
  by_cases a0 : a = 0
  · rw [if_pos a0, if_pos a0, il.2.2.2.1]
    exact ⟨h, rfl, r⟩
  by_cases a1 : a = 1
  · rw [if_neg a0, if_neg a0, if_pos a1, if_pos a1, il.2.2.2.2.2.1]
    exact ⟨h, rfl, r⟩
  rw [if_neg a0, if_neg a0, if_neg a1, if_neg a1]
  by_cases a2 : a = 2
  · rw [if_pos a2, if_pos a2]
    exact ⟨h, rfl, r⟩
  rw [if_neg a2, if_neg a2]
  by_cases a3 : a = 3
  · rw [if_pos a3, if_pos a3]
    exact ⟨h, rfl, r⟩
  rw [if_neg a3, if_neg a3]
  by_cases a4 : a = 4
  · rw [if_pos a4, if_pos a4, e, b2_s, itp (n0eq (k := sr h N S 0 6) (by omega))]
    refine ⟨g, ?_, q⟩
    split <;> rfl
  rw [if_neg a4, if_neg a4]
  by_cases a5 : a = 5
  · rw [if_pos a5, if_pos a5, e, b2_s]
    exact ⟨g, rfl, q⟩
  rw [if_neg a5, if_neg a5]
  by_cases a6 : a = 6
  · rw [if_pos a6, if_pos a6]
    exact ⟨h, rfl, r⟩
  rw [if_neg a6, if_neg a6]
  by_cases a7 : a = 7
  · have m := YM_missing_L4_e (h := h) 6 FU 0 0 (by omega) (by rw [FU_s]; omega)
    rw [Nat.zero_add, nI_0] at m
    unfold YM_missing
    rw [if_pos a7, if_pos a7, m, b1_s]
    exact ⟨h, rfl, r⟩
  rw [if_neg a7, if_neg a7]
  by_cases a8 : a = 8
  · rw [if_pos a8, if_pos a8]
    exact ⟨h, rfl, r⟩
  · rw [if_neg a8, if_neg a8]
    exact ⟨h, rfl, r⟩
theorem E_count {h : sd_H} (iv : Iv h h) (a : Int32) : EE (XT_count h a) (fun g => YM_count g a) := by
  obtain ⟨N, S, il, ih⟩ := iv.2.2.2.2.1
  refine EE_q (X_count iv il a) fun g q => ?_
  obtain ⟨w, e, q2⟩ := M_count q.1 (QQ_il q il) a
  exact ⟨w, by rw [e, CT_c q], q2⟩
