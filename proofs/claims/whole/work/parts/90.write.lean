/-! ===== an item, done by both ===== -/
theorem FX_w {P : Nat} {g : sd_H} {T3 : Prop} [Decidable T3] {a b c : Nat} {p q : Int32} {x : UInt64} : FX P (if T3 then wD (wI g 103 a p) 102 b x else wI (wD g (P + 3) c x) (P + 4) c q) g := by
  split
  · exact ⟨fun k h1 h2 => by simp (disch := omega) only [wI_d, wD_i, fI_d, fD_i, wI_eq, wD_eq, wI_ne, wD_ne, fI_ne, fD_ne, wI_ns, wD_ns, fI_eq, fD_eq, fI_ns, fD_ns], fun k h1 h2 => by simp (disch := omega) only [wI_d, wD_i, fI_d, fD_i, wI_eq, wD_eq, wI_ne, wD_ne, fI_ne, fD_ne, wI_ns, wD_ns, fI_eq, fD_eq, fI_ns, fD_ns], rfl⟩
  · exact ⟨fun k h1 h2 => by simp (disch := omega) only [wI_d, wD_i, fI_d, fD_i, wI_eq, wD_eq, wI_ne, wD_ne, fI_ne, fD_ne, wI_ns, wD_ns, fI_eq, fD_eq, fI_ns, fD_ns], fun k h1 h2 => by simp (disch := omega) only [wI_d, wD_i, fI_d, fD_i, wI_eq, wD_eq, wI_ne, wD_ne, fI_ne, fD_ne, wI_ns, wD_ns, fI_eq, fD_eq, fI_ns, fD_ns], rfl⟩
theorem FX_r (P : Nat) (g : sd_H) : FX P g g := ⟨fun _ _ _ => rfl, fun _ _ _ => rfl, rfl⟩
theorem or_bit {m i : Nat} (hi : i < 24) : nI m ||| (1 <<< (nI i &&& 31)) = nI (m ||| 2 ^ i) := by
  have : ∀ i, i < 24 → (1 : Int32) <<< (nI i &&& 31) = nI (2 ^ i) := by decide +kernel
  rw [this i hi, nI_or]
theorem XU_write_e {P : Nat} {T : Nat → Int32} {mx : Bool} {N S : Nat} {w0 g v : sd_H} {k t j r i f m : Nat} {x y : UInt64} (rs : RS P T mx N S g v) (rd : RD P T mx w0 g v) (hk : k < S) (ht : t < 10) (hr : r < 6) (hi : i < 24) (hf : f ≤ 3) (er : v.1 137 (3 * k) = nI r) (ep : pl v (3 * k) t j = nI i) (ef : v.1 127 r = nI f) (ec : YM_castTo (nI f) y = some x) (em : g.1 103 (t * 6 + r) = nI m) :
    XU_write g (10 + 5 * k) (nI t) (nI j) y = some (if T r = 3 then wD (wI g 103 (t * 6 + r) (nI (m ||| 2 ^ i))) 102 ((t * 6 + r) * 24 + i) x else wI (wD g (P + 3) (24 * r + i) x) (P + 4) (24 * r + i) (if T r = 2 then (if g.1 (P + 4) (24 * r + i) < nI t then nI t else g.1 (P + 4) (24 * r + i)) else nI t)) := by
  obtain ⟨s1, s2, s3, s4, s5, s6, s7, s8⟩ := rs
  obtain ⟨d1, d2, d3, d4, d5, d6⟩ := rd
  have ik := s3.2.2.2.2.2.2 k hk
  have R := ik.2 0 (by omega)
  have at0 := XF_at_e (g := g) (v := v) (k := k) (w := 0) R t j
  have r0 := R.1
  simp only [Nat.add_zero] at r0 at0
  have hp1 : P < 120 := by omega
  have e1440 : nI (t * 6 + r) * 24 + nI i = nI ((t * 6 + r) * 24 + i) := by rw [lit 24, pk_mul, nI_add]
  unfold XU_write
  rw [at0, b1_s, ep, op_e s2 (P_sh s1), r0, er, inB_n hr (by omega), gd_t, nI_clamp (by omega), (d1 r hr).1, ef, XN_cast_e, ec, b1_s, gd_t, s5 r hr, e_tr, e1440, e_ri, inB_n (show t * 6 + r < 60 by omega) (by omega), nI_clamp (show t * 6 + r < 2 ^ 31 by omega), inB_n (show (t * 6 + r) * 24 + i < 1440 by omega) (by omega), nI_clamp (show (t * 6 + r) * 24 + i < 2 ^ 31 by omega), inB_n (show 24 * r + i < 144 by omega) (by omega), nI_clamp (show 24 * r + i < 2 ^ 31 by omega), em, or_bit hi]
  by_cases t3 : T r = 3
  · rw [if_pos t3, if_pos t3]
    simp only [gd_t, hb_s]
  · rw [if_neg t3, if_neg t3, op_e s2 (P_sh s1), gd_t, hb_s, op_e (c := P) (show (wD g (P + 3) (24 * r + i) x).2.2 0 = some P from s2) (P_sh s1), gd_t]
    have c101 : (wD g (P + 3) (24 * r + i) x).1 101 r = T r := s5 r hr
    rw [c101]
    unfold XU_write_B142
    by_cases t2 : T r = 2
    · rw [if_pos t2, if_pos t2, op_e (c := P) (show (wD g (P + 3) (24 * r + i) x).2.2 0 = some P from s2) (P_sh s1), gd_t, inB_n (show 24 * r + i < 144 by omega) (by omega), gd_t, hb_s, nI_clamp (show 24 * r + i < 2 ^ 31 by omega)]
      rfl
    · rw [if_neg t2, if_neg t2, inB_n (show 24 * r + i < 144 by omega) (by omega), gd_t, hb_s, nI_clamp (show 24 * r + i < 2 ^ 31 by omega)]
theorem YM_writes_e {P : Nat} {T : Nat → Int32} {mx : Bool} {N S : Nat} {g v v' : sd_H} {t r i : Nat} {x : UInt64} (rs : RS P T mx N S g v) (mc : MSc v' v) (ht : t < 10) (hr : r < 6) (hi : i < 24) :
    YM_writes v' (nI (24 * r + i)) (nI t) x = some (if T r = 3 then wI (wD v' 148 (144 * t + (24 * r + i)) x) 149 (144 * t + (24 * r + i)) 1 else wI (wD v' 129 (24 * r + i) x) 130 (24 * r + i) (if T r = 2 then (if v.1 130 (24 * r + i) ≤ nI t then nI t else v.1 130 (24 * r + i)) else nI t)) := by
  obtain ⟨s1, s2, s3, s4, s5, s6, s7, s8⟩ := rs
  have d24 : nI (24 * r + i) / 24 = nI r := by
    rw [lit 24, pk_div (by omega) (by omega) (by omega)]
    exact congrArg nI (by omega)
  have e130 : (wD v' 129 (24 * r + i) x).1 130 (24 * r + i) = v.1 130 (24 * r + i) := by
    show v'.1 130 _ = _
    rw [mc.1 130 (by omega)]
  unfold YM_writes YM_writes_B20 YM_writes_B94 YM_writes_B95
  rw [mc.2.1 33 (by omega) (by omega), s6, itp (bi_0 _), d24, inB_n hr (by omega), gd_t, nI_clamp (show r < 2 ^ 31 by omega), mc.1 146 (by omega), e_144, inB_n (show 144 * t + (24 * r + i) < 1440 by omega) (by omega), nI_clamp (show 144 * t + (24 * r + i) < 2 ^ 31 by omega), inB_n (show 24 * r + i < 144 by omega) (by omega), nI_clamp (show 24 * r + i < 2 ^ 31 by omega)]
  simp only [gd_t, hb_s]
  rw [e130]
  cases mx
  · have t1 := s7 rfl r hr
    rw [if_pos rfl, if_neg (show ¬ (-1 : Int32) = 3 by decide), if_neg (show ¬ (-1 : Int32) = 2 by decide), if_neg (by rw [t1]; decide), if_neg (by rw [t1]; decide)]
  · rw [if_neg (show ¬ true = false by decide), s8 rfl r hr]
    by_cases t3 : T r = 3
    · rw [if_pos t3, if_pos t3]
    · rw [if_neg t3, if_neg t3]
      by_cases t2 : T r = 2
      · rw [if_pos t2, if_pos t2]
        by_cases q : v.1 130 (24 * r + i) ≤ nI t
        · rw [if_pos q, if_pos q]
        · rw [if_neg q, if_neg q]
      · rw [if_neg t2, if_neg t2]
