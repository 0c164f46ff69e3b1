/-! ===== what is asked depends on its cells alone ===== -/
theorem dn_c {v v' : sd_H} (h7 : v'.1 127 = v.1 127) (h8 : v'.1 128 = v.1 128) (h9 : v'.2.1 129 = v.2.1 129) (h4 : v'.1 134 = v.1 134) (h5 : v'.1 135 = v.1 135) (h6 : v'.1 136 = v.1 136) (hs : v'.1 126 7 = v.1 126 7) : dn v' = dn v := by
  refine funext fun k => funext fun i => ?_
  unfold dn
  rw [h7, h8, h9, h4, h5, h6, hs]
/-- the model's cells of the loop and of the rows' forms and sizes, and what is done, are the same -/
def SL (v' v : sd_H) : Prop := dn v' = dn v ∧ v'.1 127 = v.1 127 ∧ v'.1 128 = v.1 128 ∧ v'.1 132 = v.1 132 ∧ v'.1 133 = v.1 133 ∧ v'.1 137 = v.1 137 ∧ v'.1 138 = v.1 138 ∧ v'.1 139 = v.1 139 ∧ v'.1 140 = v.1 140 ∧ v'.1 126 6 = v.1 126 6 ∧ v'.1 126 7 = v.1 126 7
theorem lk_c {v v' : sd_H} (s : SL v' v) : lk v' = lk v := by
  obtain ⟨s0, s1, s2, s3, s4, s5, s6, s7, s8, s9, s10⟩ := s
  refine funext fun e => ?_
  unfold lk
  rw [s5, s3]
theorem pl_c {v v' : sd_H} (s : SL v' v) : pl v' = pl v := by
  obtain ⟨s0, s1, s2, s3, s4, s5, s6, s7, s8, s9, s10⟩ := s
  refine funext fun e => funext fun i => funext fun j => ?_
  unfold pl
  rw [s6, s7, s8]
theorem hp_c {v v' : sd_H} (s : SL v' v) : hp v' = hp v := by
  obtain ⟨s0, s1, s2, s3, s4, s5, s6, s7, s8, s9, s10⟩ := s
  refine funext fun e => funext fun i => ?_
  unfold hp
  rw [s1, s2]
theorem gr_c {v v' : sd_H} (s : SL v' v) : gr v' = gr v := by
  obtain ⟨s0, s1, s2, s3, s4, s5, s6, s7, s8, s9, s10⟩ := s
  refine funext fun e => ?_
  unfold gr
  rw [s5]
theorem bt_c {v v' : sd_H} (s : SL v' v) : bt v' = bt v := by
  refine funext fun e => funext fun i => funext fun j => ?_
  unfold bt
  rw [hp_c s, gr_c s, pl_c s]
theorem ok_c {v v' : sd_H} (s : SL v' v) : ok v' = ok v := by
  refine funext fun e => funext fun i => funext fun j => ?_
  unfold ok
  rw [lk_c s, hp_c s, gr_c s, pl_c s]
theorem q_rd_c {v v' : sd_H} (s : SL v' v) : q_rd v' = q_rd v := by
  refine funext fun e => funext fun i => funext fun j => funext fun C => funext fun A => ?_
  unfold q_rd
  rw [lk_c s, bt_c s, gr_c s]
theorem q_it_c {v v' : sd_H} (s : SL v' v) : q_it v' = q_it v := by
  refine funext fun e => funext fun i => funext fun j => funext fun A => ?_
  unfold q_it
  rw [q_rd_c s, ok_c s, bt_c s, gr_c s, hp_c s, pl_c s, s.2.2.2.1]
theorem q_its_c {v v' : sd_H} (s : SL v' v) (k t : Nat) : ∀ n j A, q_its v' k t n j A = q_its v k t n j A
  | 0, _, _ => rfl
  | n + 1, j, A => by
    unfold q_its
    rw [q_it_c s]
    dsimp only
    rw [q_its_c s k t n]
theorem q_sts_c {v v' : sd_H} (s : SL v' v) (t : Nat) : ∀ n k A, q_sts v' t n k A = q_sts v t n k A
  | 0, _, _ => rfl
  | n + 1, k, A => by
    unfold q_sts
    rw [s.1, s.2.2.2.2.1, q_its_c s]
    dsimp only
    rw [q_sts_c s t n]
theorem q_tns_c {v v' : sd_H} (s : SL v' v) : ∀ n t A, q_tns v' n t A = q_tns v n t A
  | 0, _, _ => rfl
  | n + 1, t, A => by
    unfold q_tns q_tn
    rw [s.2.2.2.2.2.2.2.2.2.2, q_sts_c s]
    exact q_tns_c s n _ _
theorem q_al_c {v v' : sd_H} (s : SL v' v) : q_al v' = q_al v := by
  unfold q_al
  rw [s.2.2.2.2.2.2.2.2.2.1, q_tns_c s]
theorem IS_c {g v g' v' : sd_H} (h0 : g'.1 56 5 = g.1 56 5) (hg : ∀ s, s < 4 → g'.1 (58 + s) = g.1 (58 + s)) (s : SL v' v) (i : IS g v) : IS g' v' := by
  unfold IS
  rw [h0, q_al_c s]
  rcases i with i | ⟨i, j⟩
  · exact Or.inl i
  · refine Or.inr ⟨i, fun t ht a ha => ?_⟩
    rw [hg t ht]
    exact j t ht a ha
theorem SL_r (v : sd_H) : SL v v := ⟨rfl, rfl, rfl, rfl, rfl, rfl, rfl, rfl, rfl, rfl, rfl⟩
/-- what stands stands where its cells are the same -/
theorem Iv_c {g v g' v' : sd_H}
    (x2 : g'.1 2 = g.1 2) (x3 : g'.1 3 = g.1 3) (x4 : g'.2.1 4 = g.2.1 4) (x5 : g'.1 5 = g.1 5) (xl : ∀ c, 6 ≤ c → c ≤ 32 → g'.1 c = g.1 c)
    (x33 : g'.1 33 = g.1 33) (xh : ∀ c, 35 ≤ c → c ≤ 54 → g'.1 c = g.1 c) (x55 : g'.1 55 = g.1 55) (x015 : g'.1 0 15 = g.1 0 15)
    (xo : g'.1 107 = g.1 107) (xo8 : g'.1 108 = g.1 108) (xo9 : g'.1 109 = g.1 109) (xs : g'.1 56 5 = g.1 56 5) (xt : ∀ s, s < 4 → g'.1 (58 + s) = g.1 (58 + s))
    (m7 : v'.1 127 = v.1 127) (m8 : v'.1 128 = v.1 128) (m9 : v'.2.1 129 = v.2.1 129) (m0 : v'.1 130 = v.1 130)
    (h2 : v'.1 132 = v.1 132) (h3 : v'.1 133 = v.1 133) (h4 : v'.1 134 = v.1 134) (h5 : v'.1 135 = v.1 135) (h6 : v'.1 136 = v.1 136)
    (h7 : v'.1 137 = v.1 137) (h8 : v'.1 138 = v.1 138) (h9 : v'.1 139 = v.1 139) (h0 : v'.1 140 = v.1 140)
    (hn : v'.1 126 6 = v.1 126 6) (hs : v'.1 126 7 = v.1 126 7) (l1 : v'.1 141 = v.1 141) (l2 : v'.1 126 18 = v.1 126 18)
    (t1 : v'.1 126 20 = v.1 126 20) (t2 : v'.1 142 = v.1 142) (fi : g'.1 0 16 = v'.1 126 4)
    (o1 : v'.1 126 34 = v.1 126 34) (o2 : v'.1 126 37 = v.1 126 37) (o3 : v'.1 150 = v.1 150) (o4 : v'.1 151 = v.1 151) (i : Iv g v) : Iv g' v' := by
  obtain ⟨a, b, c, d, ⟨N, S, e, f⟩, k, _, m, n⟩ := i
  unfold Iv
  rw [x2, x3, x4, x5, m7, m8, m9, m0, x55, x015, t1, t2, xo, xo8, xo9, o1, o2, o3, o4]
  exact ⟨a, b, c, d, ⟨N, S, IL_c xl h2 h3 h4 h5 h6 h7 h8 h9 h0 hn hs e, IH_c x33 xh l1 l2 f⟩, k, fi, m,
    IS_c xs xt ⟨dn_c m7 m8 m9 h4 h5 h6 hs, m7, m8, h2, h3, h7, h8, h9, h0, hn, hs⟩ n⟩
theorem Iv_f {h : sd_H} (n : Int32) (i : Iv h h) : Iv (wI (wI h 0 16 n) 126 4 n) (wI (wI h 0 16 n) 126 4 n) := by
  refine Iv_c ?_ ?_ ?_ ?_ ?_ ?_ ?_ ?_ ?_ ?_ ?_ ?_ ?_ ?_ ?_ ?_ ?_ ?_ ?_ ?_ ?_ ?_ ?_ ?_ ?_ ?_ ?_ ?_ ?_ ?_ ?_ ?_ ?_ ?_ ?_ ?_ ?_ ?_ i <;> try (simp (disch := omega) only [wI_d, wD_i, fI_d, fD_i, wI_eq, wD_eq, wI_ne, wD_ne, fI_ne, fD_ne, wI_ns, wD_ns, fI_eq, fD_eq, fI_ns, fD_ns])
  · intro c h1 h2
    simp (disch := omega) only [wI_d, wD_i, fI_d, fD_i, wI_eq, wD_eq, wI_ne, wD_ne, fI_ne, fD_ne, wI_ns, wD_ns, fI_eq, fD_eq, fI_ns, fD_ns]
  · intro c h1 h2
    simp (disch := omega) only [wI_d, wD_i, fI_d, fD_i, wI_eq, wD_eq, wI_ne, wD_ne, fI_ne, fD_ne, wI_ns, wD_ns, fI_eq, fD_eq, fI_ns, fD_ns]
  · intro c h1
    simp (disch := omega) only [wI_d, wD_i, fI_d, fD_i, wI_eq, wD_eq, wI_ne, wD_ne, fI_ne, fD_ne, wI_ns, wD_ns, fI_eq, fD_eq, fI_ns, fD_ns]
