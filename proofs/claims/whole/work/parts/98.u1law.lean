/-! ===== the law's loop ===== -/
theorem lg_r (x : Int64) : lg_cmp x x = 0 := by
  unfold lg_cmp
  simp
theorem ee_k {o : Option (sd_H × Int32)} {f : sd_H → Option (sd_H × Int32)} (e : EE o f) (K : sd_H → Option Int32) (hK : ∀ g, Iv g g → K g = some 1) : b2 o (fun g t => b2 (f g) (fun g' t' => if t = t' then K g' else some 0)) = some 1 := by
  obtain ⟨h1, r, h2, a, b, i⟩ := e
  rw [a, b2_s, b, b2_s, if_pos rfl]
  exact hK h2 i
theorem ee_l {o : Option (sd_H × Int64)} {f : sd_H → Option (sd_H × Int64)} (e : EE o f) (K : sd_H → Option Int32) (hK : ∀ g, Iv g g → K g = some 1) : b2 o (fun g t => b2 (f g) (fun g' t' => if lg_cmp t t' = 0 then K g' else some 0)) = some 1 := by
  obtain ⟨h1, r, h2, a, b, i⟩ := e
  rw [a, b2_s, b, b2_s, if_pos (lg_r r)]
  exact hK h2 i
theorem ee_1 {o : Option (sd_H × Int32)} {f : sd_H → Option Int32} (e : E1 o f) (K : sd_H → Option Int32) (hK : ∀ g, Iv g g → K g = some 1) : b2 o (fun g t => b1 (f g) (fun t' => if t = t' then K g else some 0)) = some 1 := by
  obtain ⟨h1, r, a, b, i⟩ := e
  rw [a, b2_s, b, b1_s, if_pos rfl]
  exact hK h1 i
theorem ee_p {h : sd_H} (iv : Iv h h) {o m : Option Int32} (e : ∃ r, o = some r ∧ m = some r) (K : sd_H → Option Int32) (hK : ∀ g, Iv g g → K g = some 1) : b1 o (fun t => b1 m (fun t' => if t = t' then K h else some 0)) = some 1 := by
  obtain ⟨r, a, b⟩ := e
  rw [a, b1_s, b, b1_s, if_pos rfl]
  exact hK h iv
theorem law_lt {L p : Nat} (hL : L ≤ 3072) (hp : p ≤ 4000) : ((Int32.ofNat L) - 6 < nI p) = (L < p + 6) := by
  rw [show Int32.ofNat L = nI L from rfl, lit 6, Int32.lt_iff_toInt_lt, nI_toInt (show p < 2 ^ 31 by omega)]
  by_cases c : L < 6
  · have : ∀ L, L < 6 → (nI L - nI 6).toInt < 0 := by decide
    have := this L c
    exact propext ⟨fun _ => by omega, fun _ => by omega⟩
  · rw [pk_sub (by omega), nI_toInt (by omega)]
    exact propext ⟨fun _ => by omega, fun _ => by omega⟩
set_option maxHeartbeats 8000000 in
set_option maxRecDepth 100000 in
theorem law_e {L : Nat} {xs : Nat → Int32} (hL : L ≤ 3072) : ∀ n p h, Iv h h → p ≤ 4000 → 0 < n → L < n + p → LW_L18 xs L n h (nI p) = some 1 := by
  intro n
  induction n with
  | zero => intro p h _ _ q; exact absurd q (Nat.not_lt_zero _)
  | succ n ih =>
    intro p h iv hp _ hn
    rw [LW_L18, itp (law_lt hL hp)]
    by_cases c : L < p + 6
    · rw [if_pos c]
    rw [if_neg c]
    have q0 : sd_inB (nI p) L = true := inB_n (by omega) (by omega)
    have q1 : sd_inB (nI p + 1) L = true := by rw [lit 1, nI_add]; exact inB_n (by omega) (by omega)
    have q2 : sd_inB (nI p + 2) L = true := by rw [lit 2, nI_add]; exact inB_n (by omega) (by omega)
    have q3 : sd_inB (nI p + 3) L = true := by rw [lit 3, nI_add]; exact inB_n (by omega) (by omega)
    have q4 : sd_inB (nI p + 4) L = true := by rw [lit 4, nI_add]; exact inB_n (by omega) (by omega)
    have q5 : sd_inB (nI p + 5) L = true := by rw [lit 5, nI_add]; exact inB_n (by omega) (by omega)
    simp only [q0, q1, q2, q3, q4, q5, gd_t]
    have hK : ∀ g, Iv g g → LW_B1465 g (LW_L18 xs L n) (nI p) = some 1 := fun g i => by
      unfold LW_B1465
      rw [lit 6, nI_add]
      exact ih (p + 6) g i (by omega) (by omega) (by omega)
    by_cases c0 : xs (nI p).toNatClampNeg &&& 63 = 0
    · rw [if_pos c0]
      exact ee_k (E_row iv _ _ _) (fun g => LW_B1465 g (LW_L18 xs L n) (nI p)) hK
    rw [if_neg c0]
    by_cases c1 : xs (nI p).toNatClampNeg &&& 63 = 1
    · rw [if_pos c1]
      exact ee_k (E_lose iv _) (fun g => LW_B1465 g (LW_L18 xs L n) (nI p)) hK
    rw [if_neg c1]
    by_cases c2 : xs (nI p).toNatClampNeg &&& 63 = 2
    · rw [if_pos c2]
      exact ee_k (E_put iv _ _ _ _) (fun g => LW_B1465 g (LW_L18 xs L n) (nI p)) hK
    rw [if_neg c2]
    by_cases c3 : xs (nI p).toNatClampNeg &&& 63 = 3
    · rw [if_pos c3]
      exact ee_l (E_get iv _ _) (fun g => LW_B1465 g (LW_L18 xs L n) (nI p)) hK
    rw [if_neg c3]
    by_cases c4 : xs (nI p).toNatClampNeg &&& 63 = 4
    · rw [if_pos c4]
      exact ee_k (E_copy iv _ _ _ _ _) (fun g => LW_B1465 g (LW_L18 xs L n) (nI p)) hK
    rw [if_neg c4]
    by_cases c5 : xs (nI p).toNatClampNeg &&& 63 = 5
    · rw [if_pos c5]
      exact ee_k (E_turns iv _) (fun g => LW_B1465 g (LW_L18 xs L n) (nI p)) hK
    rw [if_neg c5]
    by_cases c6 : xs (nI p).toNatClampNeg &&& 63 = 6
    · rw [if_pos c6]
      exact ee_k (E_type iv _) (fun g => LW_B1465 g (LW_L18 xs L n) (nI p)) hK
    rw [if_neg c6]
    by_cases c7 : xs (nI p).toNatClampNeg &&& 63 = 7
    · rw [if_pos c7]
      exact ee_k (E_wipe iv ) (fun g => LW_B1465 g (LW_L18 xs L n) (nI p)) hK
    rw [if_neg c7]
    by_cases c8 : xs (nI p).toNatClampNeg &&& 63 = 8
    · rw [if_pos c8]
      exact ee_k (E_statement iv _) (fun g => LW_B1465 g (LW_L18 xs L n) (nI p)) hK
    rw [if_neg c8]
    by_cases c9 : xs (nI p).toNatClampNeg &&& 63 = 9
    · rw [if_pos c9]
      exact ee_k (E_refer iv _ _ _) (fun g => LW_B1465 g (LW_L18 xs L n) (nI p)) hK
    rw [if_neg c9]
    by_cases c10 : xs (nI p).toNatClampNeg &&& 63 = 10
    · rw [if_pos c10]
      exact ee_k (E_place iv _ _ _ _ _) (fun g => LW_B1465 g (LW_L18 xs L n) (nI p)) hK
    rw [if_neg c10]
    by_cases c11 : xs (nI p).toNatClampNeg &&& 63 = 11
    · rw [if_pos c11]
      exact ee_k (E_guard iv _ _ _) (fun g => LW_B1465 g (LW_L18 xs L n) (nI p)) hK
    rw [if_neg c11]
    by_cases c12 : xs (nI p).toNatClampNeg &&& 63 = 12
    · rw [if_pos c12]
      exact ee_k (E_mask iv _ _) (fun g => LW_B1465 g (LW_L18 xs L n) (nI p)) hK
    rw [if_neg c12]
    by_cases c13 : xs (nI p).toNatClampNeg &&& 63 = 13
    · rw [if_pos c13]
      exact ee_k (E_undo iv ) (fun g => LW_B1465 g (LW_L18 xs L n) (nI p)) hK
    rw [if_neg c13]
    by_cases c14 : xs (nI p).toNatClampNeg &&& 63 = 14
    · rw [if_pos c14]
      exact ee_p iv (E_info iv _ _) (fun g => LW_B1465 g (LW_L18 xs L n) (nI p)) hK
    rw [if_neg c14]
    by_cases c15 : xs (nI p).toNatClampNeg &&& 63 = 15
    · rw [if_pos c15]
      exact ee_p iv (E_reference iv _ _ _) (fun g => LW_B1465 g (LW_L18 xs L n) (nI p)) hK
    rw [if_neg c15]
    by_cases c16 : xs (nI p).toNatClampNeg &&& 63 = 16
    · rw [if_pos c16]
      exact ee_1 (E_section iv _ _ _) (fun g => LW_B1465 g (LW_L18 xs L n) (nI p)) hK
    rw [if_neg c16]
    by_cases c17 : xs (nI p).toNatClampNeg &&& 63 = 17
    · rw [if_pos c17]
      exact ee_1 (E_meet iv _ _ _ _ _) (fun g => LW_B1465 g (LW_L18 xs L n) (nI p)) hK
    rw [if_neg c17]
    by_cases c18 : xs (nI p).toNatClampNeg &&& 63 = 18
    · rw [if_pos c18]
      exact ee_k (E_kinds iv _ _) (fun g => LW_B1465 g (LW_L18 xs L n) (nI p)) hK
    rw [if_neg c18]
    by_cases c19 : xs (nI p).toNatClampNeg &&& 63 = 19
    · rw [if_pos c19]
      exact ee_k (E_kind iv _ _ _ _) (fun g => LW_B1465 g (LW_L18 xs L n) (nI p)) hK
    rw [if_neg c19]
    by_cases c20 : xs (nI p).toNatClampNeg &&& 63 = 20
    · rw [if_pos c20]
      exact ee_k (E_many iv _ _ _) (fun g => LW_B1465 g (LW_L18 xs L n) (nI p)) hK
    rw [if_neg c20]
    by_cases c21 : xs (nI p).toNatClampNeg &&& 63 = 21
    · rw [if_pos c21]
      exact ee_k (E_pieces iv _ _ _) (fun g => LW_B1465 g (LW_L18 xs L n) (nI p)) hK
    rw [if_neg c21]
    by_cases c22 : xs (nI p).toNatClampNeg &&& 63 = 22
    · rw [if_pos c22]
      exact ee_k (E_piece iv _ _ _ _ _) (fun g => LW_B1465 g (LW_L18 xs L n) (nI p)) hK
    rw [if_neg c22]
    by_cases c23 : xs (nI p).toNatClampNeg &&& 63 = 23
    · rw [if_pos c23]
      exact ee_k (E_verdict iv _) (fun g => LW_B1465 g (LW_L18 xs L n) (nI p)) hK
    rw [if_neg c23]
    by_cases c24 : xs (nI p).toNatClampNeg &&& 63 = 24
    · rw [if_pos c24]
      exact ee_k (E_would iv _ _) (fun g => LW_B1465 g (LW_L18 xs L n) (nI p)) hK
    rw [if_neg c24]
    by_cases c25 : xs (nI p).toNatClampNeg &&& 63 = 25
    · rw [if_pos c25]
      exact ee_k (E_witness iv _ _) (fun g => LW_B1465 g (LW_L18 xs L n) (nI p)) hK
    rw [if_neg c25]
    by_cases c26 : xs (nI p).toNatClampNeg &&& 63 = 26
    · rw [if_pos c26]
      exact ee_k (E_last iv _ _ _) (fun g => LW_B1465 g (LW_L18 xs L n) (nI p)) hK
    rw [if_neg c26]
    by_cases c27 : xs (nI p).toNatClampNeg &&& 63 = 27
    · rw [if_pos c27]
      exact ee_k (E_run iv ) (fun g => LW_B1465 g (LW_L18 xs L n) (nI p)) hK
    rw [if_neg c27]
    by_cases c28 : xs (nI p).toNatClampNeg &&& 63 = 28
    · rw [if_pos c28]
      exact ee_k (E_mixed iv _ _ _ _) (fun g => LW_B1465 g (LW_L18 xs L n) (nI p)) hK
    rw [if_neg c28]
    by_cases c29 : xs (nI p).toNatClampNeg &&& 63 = 29
    · rw [if_pos c29]
      exact ee_k (E_same iv _ _ _ _) (fun g => LW_B1465 g (LW_L18 xs L n) (nI p)) hK
    rw [if_neg c29]
    by_cases c30 : xs (nI p).toNatClampNeg &&& 63 = 30
    · rw [if_pos c30]
      exact ee_p iv (E_faults iv _) (fun g => LW_B1465 g (LW_L18 xs L n) (nI p)) hK
    rw [if_neg c30]
    by_cases c31 : xs (nI p).toNatClampNeg &&& 63 = 31
    · rw [if_pos c31]
      exact ee_p iv (E_ended iv _) (fun g => LW_B1465 g (LW_L18 xs L n) (nI p)) hK
    rw [if_neg c31]
    by_cases c32 : xs (nI p).toNatClampNeg &&& 63 = 32
    · rw [if_pos c32]
      exact ee_k (E_writer iv _ _) (fun g => LW_B1465 g (LW_L18 xs L n) (nI p)) hK
    rw [if_neg c32]
    by_cases c33 : xs (nI p).toNatClampNeg &&& 63 = 33
    · rw [if_pos c33]
      exact ee_k (E_count iv _) (fun g => LW_B1465 g (LW_L18 xs L n) (nI p)) hK
    rw [if_neg c33]
    by_cases c34 : xs (nI p).toNatClampNeg &&& 63 = 34
    · rw [if_pos c34]
      exact ee_l (E_digest iv ) (fun g => LW_B1465 g (LW_L18 xs L n) (nI p)) hK
    rw [if_neg c34]
    exact hK h iv
/-- the heap that the constructors leave -/
theorem ini_iv {hf : sd_HX} (h : sd_ini hf = true) : Iv (sd_mk hf) (sd_mk hf) := by
  unfold sd_ini at h
  rw [Bool.and_eq_true, List.all_eq_true, List.all_eq_true] at h
  obtain ⟨h1, h2⟩ := h
  have v : ∀ c k x, (c, k, x) ∈ sd_i0 → (sd_mk hf).1 c k = x := fun c k x m => of_decide_eq_true (h1 _ m)
  have d4 : ∀ a, a < 144 → (sd_mk hf).2.1 4 a = FP.dconst0 := fun a ha => by
    have := h2 a (List.mem_range.mpr ha)
    rw [Bool.and_eq_true] at this
    exact of_decide_eq_true this.1
  have d9 : ∀ a, a < 144 → (sd_mk hf).2.1 129 a = FP.dconst0 := fun a ha => by
    have := h2 a (List.mem_range.mpr ha)
    rw [Bool.and_eq_true] at this
    exact of_decide_eq_true this.2
  have six : ∀ r, r < 6 → r = 0 ∨ r = 1 ∨ r = 2 ∨ r = 3 ∨ r = 4 ∨ r = 5 := fun r hr => by omega
  have e2 : ∀ r, r < 6 → (sd_mk hf).1 2 r = -1 := fun r hr => by
    rcases six r hr with rfl | rfl | rfl | rfl | rfl | rfl <;> exact v _ _ _ (by decide)
  have e127 : ∀ r, r < 6 → (sd_mk hf).1 127 r = -1 := fun r hr => by
    rcases six r hr with rfl | rfl | rfl | rfl | rfl | rfl <;> exact v _ _ _ (by decide)
  have e3 : ∀ r, r < 6 → (sd_mk hf).1 3 r = 0 := fun r hr => by
    rcases six r hr with rfl | rfl | rfl | rfl | rfl | rfl <;> exact v _ _ _ (by decide)
  have e128 : ∀ r, r < 6 → (sd_mk hf).1 128 r = 0 := fun r hr => by
    rcases six r hr with rfl | rfl | rfl | rfl | rfl | rfl <;> exact v _ _ _ (by decide)
  have three : ∀ r, r < 3 → r = 0 ∨ r = 1 ∨ r = 2 := fun r hr => by omega
  have e108 : ∀ r, r < 3 → (sd_mk hf).1 108 r = 0 := fun r hr => by
    rcases three r hr with rfl | rfl | rfl <;> exact v _ _ _ (by decide)
  have e150 : ∀ r, r < 3 → (sd_mk hf).1 150 r = 0 := fun r hr => by
    rcases three r hr with rfl | rfl | rfl <;> exact v _ _ _ (by decide)
  refine ⟨fun r hr => ⟨(e2 r hr).trans (e127 r hr).symm, Or.inl ⟨e127 r hr, e3 r hr, fun i hi => d4 _ (by omega)⟩⟩, fun r hr n => absurd (e127 r hr) n, fun r hr => ⟨0, by omega, e128 r hr⟩, fun a ha => by rw [d9 a ha]; exact okc_0, ⟨0, 0, ⟨by omega, by omega, v 6 1 0 (by decide), v 126 6 0 (by decide), v 6 2 0 (by decide), v 126 7 0 (by decide), fun k hk => absurd hk (Nat.not_lt_zero _)⟩, ⟨0, 0, fun _ => 0, by omega, by omega, v 33 1 0 (by decide), v 33 2 0 (by decide), v 126 18 0 (by decide), rfl, fun p hp => absurd hp (Nat.not_lt_zero _)⟩⟩, ⟨0, by omega, v 0 15 0 (by decide), v 126 20 0 (by decide), fun i hi => absurd hi (Nat.not_lt_zero _)⟩, (v 0 16 0 (by decide)).trans (v 126 4 0 (by decide)).symm, ⟨(v 107 3 0 (by decide)).trans (v 126 34 0 (by decide)).symm, ⟨0, by omega, v 107 2 0 (by decide), v 126 37 0 (by decide), fun p hp => absurd hp (Nat.not_lt_zero _)⟩, fun f hf => (e108 f hf).trans (e150 f hf).symm⟩, Or.inl (v 56 5 1 (by decide))⟩
theorem pure_ok : sd_pure := by
  intro L xs hf hL hi
  have := law_e (xs := xs) hL FU 0 (sd_mk hf) (ini_iv hi) (by omega) (by rw [FU_s]; omega) (by rw [FU_s]; omega)
  exact this
