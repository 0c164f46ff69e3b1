/-! ===== the call meet, all of it ===== -/
theorem IL_x {h v : sd_H} {N S s : Nat} {a b c : Int32} (hs : 97 ≤ s) (il : IL h v N S) : IL (xL h s a b c) v N S :=
  IL_c (fun k h1 h2 => by simp (disch := omega) only [wI_d, wD_i, fI_d, fD_i, wI_eq, wD_eq, wI_ne, wD_ne, fI_ne, fD_ne, wI_ns, wD_ns, fI_eq, fD_eq, fI_ns, fD_ns, xL]) rfl rfl rfl rfl rfl rfl rfl rfl rfl rfl rfl il
theorem E_meet {h : sd_H} (iv : Iv h h) (a b c d p : Int32) : E1 (XT_meet h a b c d p) (fun g => YM_meet g a b c d p) := by
  obtain ⟨N, S, il, ih⟩ := iv.2.2.2.2.1
  have il' := il
  obtain ⟨a1, a2, a3, a4, a5, a6, a7⟩ := il
  unfold XT_meet YM_meet
  have ys := YM_isSection_e (v := h) a2 a4 a6 a b
  rcases hsec il' a with ⟨hx, hy⟩ | ⟨k, w, hk, hw, rfl, hg, hx⟩
  · exact E1_i (h1 := h) (r := -2147483648) (by rw [hx]; rfl) (by rw [ys.1 hy]; rfl) iv
  rw [hx, b1_s, if_neg z10.mp, XT_isTurn_e, b1_s, a3]
  rcases wn_cs b (show N < 2 ^ 30 by omega) with hz | ⟨t, ht, rfl, h1⟩
  · exact E1_i (h1 := h) (r := -2147483648) (by rw [hz]; rfl) (by rw [ys.2 k w hk hw rfl hg, hz]; rfl) iv
  have yt := ys.2 k w hk hw rfl hg
  rw [h1] at yt
  have zs := YM_isSection_e (v := h) a2 a4 a6 c d
  rw [h1, if_neg z10.mp]
  rcases hsec il' c with ⟨hx', hy'⟩ | ⟨k', w', hk', hw', rfl, hg', hx'⟩
  · exact E1_i (h1 := h) (r := -2147483648) (by rw [hx']; rfl) (by rw [yt, b1_s, if_neg z10.mp, zs.1 hy']; rfl) iv
  rw [hx', b1_s, if_neg z10.mp, XT_isTurn_e, b1_s, a3]
  rcases wn_cs d (show N < 2 ^ 30 by omega) with hz | ⟨u, hu, rfl, h2⟩
  · exact E1_i (h1 := h) (r := -2147483648) (by rw [hz]; rfl) (by rw [yt, b1_s, if_neg z10.mp, zs.2 k' w' hk' hw' rfl hg', hz]; rfl) iv
  have zt := zs.2 k' w' hk' hw' rfl hg'
  rw [h2] at zt
  obtain ⟨cc, r⟩ := RR_of (a7 k hk) hw
  obtain ⟨cd, r'⟩ := RR_of (a7 k' hk') hw'
  obtain ⟨M1, m1, m5, mM, mc⟩ := sM_n r
  obtain ⟨M2, n1, n5, nM, nc⟩ := sM_n r'
  rw [h2, if_neg z10.mp, XT_lay_e il' hk hw (by omega) (by omega), b1_s, XT_lay_e (IL_x (by omega) il') hk' hw' (by omega) (by omega), b1_s]
  obtain ⟨h16, e16⟩ : ∃ g, xL (xL h 97 (sF h (3 * k + w) t) (sD h (3 * k + w)) (sM h (3 * k + w))) 98 (sF h (3 * k' + w') u) (sD h (3 * k' + w')) (sM h (3 * k' + w')) = g := ⟨_, rfl⟩
  have cro := XS_cross_L17_e (h0 := h16) (M1 := M1) (M2 := M2) (F1 := sF h (3 * k + w) t) (D1 := sD h (3 * k + w)) (F2 := sF h (3 * k' + w') u) (D2 := sD h (3 * k' + w')) (by omega) (by omega)
    (by rw [← e16]; simp (disch := omega) only [wI_d, wD_i, fI_d, fD_i, wI_eq, wD_eq, wI_ne, wD_ne, fI_ne, fD_ne, wI_ns, wD_ns, fI_eq, fD_eq, fI_ns, fD_ns, xL]) (by rw [← e16]; simp (disch := omega) only [wI_d, wD_i, fI_d, fD_i, wI_eq, wD_eq, wI_ne, wD_ne, fI_ne, fD_ne, wI_ns, wD_ns, fI_eq, fD_eq, fI_ns, fD_ns, xL]) (by rw [← e16]; simp (disch := omega) only [wI_d, wD_i, fI_d, fD_i, wI_eq, wD_eq, wI_ne, wD_ne, fI_ne, fD_ne, wI_ns, wD_ns, fI_eq, fD_eq, fI_ns, fD_ns, xL]; exact mM) (by rw [← e16]; simp (disch := omega) only [wI_d, wD_i, fI_d, fD_i, wI_eq, wD_eq, wI_ne, wD_ne, fI_ne, fD_ne, wI_ns, wD_ns, fI_eq, fD_eq, fI_ns, fD_ns, xL]) (by rw [← e16]; simp (disch := omega) only [wI_d, wD_i, fI_d, fD_i, wI_eq, wD_eq, wI_ne, wD_ne, fI_ne, fD_ne, wI_ns, wD_ns, fI_eq, fD_eq, fI_ns, fD_ns, xL]) (by rw [← e16]; simp (disch := omega) only [wI_d, wD_i, fI_d, fD_i, wI_eq, wD_eq, wI_ne, wD_ne, fI_ne, fD_ne, wI_ns, wD_ns, fI_eq, fD_eq, fI_ns, fD_ns, xL]; exact nM) M1 FU 0 (0, 1, 0) (by omega) (by rw [FU_s]; omega)
  have ce : (fun x => anyI (fun n => sF h (3 * k' + w') u + nI n * sD h (3 * k' + w')) x 0 M2) = (fun x => anyI (pl h (3 * k' + w') u) x 0 cd) := funext fun x => places r' (by omega) nM n1 n5 nc x
  rw [ce] at cro
  obtain ⟨q, eq⟩ : ∃ q, cr (sP h (3 * k + w) t) (fun x => anyI (pl h (3 * k' + w') u) x 0 cd) 0 M1 (0, 1, 0) = q := ⟨_, rfl⟩
  have crx : XS_cross h16 99 97 98 = some (xL h16 99 q.1 q.2.1 q.2.2) := by
    rw [← eq]
    exact cro
  rw [e16, crx, b1_s]
  have i3 : Iv (xL h16 99 q.1 q.2.1 q.2.2) (xL h16 99 q.1 q.2.1 q.2.2) := by
    refine Iv_x (by omega) ?_
    rw [← e16]
    exact Iv_x (by omega) (Iv_x (by omega) iv)
  obtain ⟨hh, ehh⟩ : ∃ g, xL h16 99 q.1 q.2.1 q.2.2 = g := ⟨_, rfl⟩
  have same : ∀ j, ¬ j = 97 → ¬ j = 98 → ¬ j = 99 → hh.1 j = h.1 j := fun j j1 j2 j3 => by
    rw [← ehh, ← e16]
    simp (disch := omega) only [wI_d, wD_i, fI_d, fD_i, wI_eq, wD_eq, wI_ne, wD_ne, fI_ne, fD_ne, wI_ns, wD_ns, fI_eq, fD_eq, fI_ns, fD_ns, xL]
  have x97 : hh.1 97 2 = sM h (3 * k + w) := by
    rw [← ehh, ← e16]
    simp (disch := omega) only [wI_d, wD_i, fI_d, fD_i, wI_eq, wD_eq, wI_ne, wD_ne, fI_ne, fD_ne, wI_ns, wD_ns, fI_eq, fD_eq, fI_ns, fD_ns, xL]
  have x0 : hh.1 99 0 = q.1 := by rw [← ehh]; simp (disch := omega) only [wI_d, wD_i, fI_d, fD_i, wI_eq, wD_eq, wI_ne, wD_ne, fI_ne, fD_ne, wI_ns, wD_ns, fI_eq, fD_eq, fI_ns, fD_ns, xL]
  have x1 : hh.1 99 1 = q.2.1 := by rw [← ehh]; simp (disch := omega) only [wI_d, wD_i, fI_d, fD_i, wI_eq, wD_eq, wI_ne, wD_ne, fI_ne, fD_ne, wI_ns, wD_ns, fI_eq, fD_eq, fI_ns, fD_ns, xL]
  have x2 : hh.1 99 2 = q.2.2 := by rw [← ehh]; simp (disch := omega) only [wI_d, wD_i, fI_d, fD_i, wI_eq, wD_eq, wI_ne, wD_ne, fI_ne, fD_ne, wI_ns, wD_ns, fI_eq, fD_eq, fI_ns, fD_ns, xL]
  rw [ehh] at i3 ⊢
  have s0 := same 126 (by omega) (by omega) (by omega)
  have s3 := same 133 (by omega) (by omega) (by omega)
  have s8 := same 138 (by omega) (by omega) (by omega)
  have s9 := same 139 (by omega) (by omega) (by omega)
  have s10 := same 140 (by omega) (by omega) (by omega)
  have s7 := same 137 (by omega) (by omega) (by omega)
  have ya : YM_isSection hh (nI (3 * k + w)) (nI t) = some 1 := by
    rw [(YM_isSection_e (v := hh) (N := N) (S := S) a2 (by rw [s0]; exact a4) (by rw [s0]; exact a6) (nI (3 * k + w)) (nI t)).2 k w hk hw rfl (by rw [s7]; exact hg), h1]
  have yb : YM_isSection hh (nI (3 * k' + w')) (nI u) = some 1 := by
    rw [(YM_isSection_e (v := hh) (N := N) (S := S) a2 (by rw [s0]; exact a4) (by rw [s0]; exact a6) (nI (3 * k' + w')) (nI u)).2 k' w' hk' hw' rfl (by rw [s7]; exact hg'), h2]
  have sc := fun e i => sect_c (v := h) (v' := hh) s3 s8 s9 s10 e i
  have ym : ∀ p, YM_meetOf hh (nI (3 * k + w)) (nI t) (nI (3 * k' + w')) (nI u) p = some (if p = 0 then q.1 else if p = 1 then q.2.1 else if p = 2 then q.2.2 else nI M1 - q.2.2) := fun p => by
    have L := YM_meetOf_L12_e (v := hh) (e := 3 * k + w) (i := t) (d := 3 * k' + w') (j := u) (M := M1) (by omega) (by omega) (RR_c s3 s8 s9 s10 r) (RR_c s3 s8 s9 s10 r') (by rw [(sc _ 0).2.2]; exact mM) m5 p M1 FU 0 (0, 1, 0) (by omega) (by rw [FU_s]; omega)
    have pe : sP hh (3 * k + w) t = sP h (3 * k + w) t := funext fun n => by
      unfold sP
      rw [(sc _ t).1, (sc _ t).2.1]
    have le : pl hh (3 * k' + w') u = pl h (3 * k' + w') u := funext fun n => by
      unfold pl
      rw [s8, s9, s10]
    rw [pe, le, eq] at L
    exact L
  rcases wn_c p 3 (by omega) with hz | ⟨z, hz3, rfl, h3⟩
  · refine E1_i (h1 := hh) (r := -2147483648) ?_ ?_ i3
    · have n0 : ∀ q, q ≤ 3 → ¬ p = nI q := fun q hq z => by
        rw [z, wn_n hq (by omega)] at hz
        exact absurd hz (by decide)
      unfold XS_part
      rw [if_neg (show ¬ p = 3 from n0 3 (by omega)), if_neg (show ¬ p = 0 from n0 0 (by omega)), if_neg (show ¬ p = 1 from n0 1 (by omega)), if_neg (show ¬ p = 2 from n0 2 (by omega))]
      rfl
    · rw [ya, b1_s, if_neg z10.mp, yb, b1_s, if_neg z10.mp, YM_in_e, b1_s, show (3 : Int32) = nI 3 from rfl, hz]
      rfl
  · refine E1_i (h1 := hh) (r := if nI z = 0 then q.1 else if nI z = 1 then q.2.1 else if nI z = 2 then q.2.2 else nI M1 - q.2.2) ?_ ?_ i3
    · unfold XS_part
      rw [x97, x0, x1, x2, mM]
      have zz : z = 0 ∨ z = 1 ∨ z = 2 ∨ z = 3 := by omega
      rcases zz with rfl | rfl | rfl | rfl <;> rfl
    · rw [ya, b1_s, if_neg z10.mp, yb, b1_s, if_neg z10.mp, YM_in_e, b1_s, show wn (nI z) 0 3 = 1 from h3, if_neg z10.mp, ym]
      rfl
