/-! ===== an item, x's side and the model's ===== -/
/-- the model's item on its own counters -/
def CO (v' v : sd_H) (f : Int32) : Prop :=
  (f = -1 ∧ v'.1 126 34 = v.1 126 34 + 1 ∧ v'.1 150 = v.1 150) ∨ (∃ q, q < 3 ∧ f = nI q ∧ v'.1 126 34 = v.1 126 34 ∧ v'.1 150 = up (v.1 150) q (v.1 150 q + 1))
theorem FM_of {v' v : sd_H} (mc : MSc v' v) : FM v' v := ⟨fun c h1 _ _ _ => mc.1 c h1, fun k _ h2 h3 => mc.2.1 k h2 h3, fun c _ _ => by rw [mc.2.2], by rw [mc.2.2]⟩
theorem RD_m {P : Nat} {T : Nat → Int32} {mx : Bool} {w0 g v v' : sd_H} (rd : RD P T mx w0 g v) (h7 : v'.1 127 = v.1 127) (h8 : v'.1 128 = v.1 128) (h0 : v'.1 130 = v.1 130) (h9 : v'.1 149 = v.1 149) (d : v'.2 = v.2) : RD P T mx w0 g v' := by
  obtain ⟨d1, d2, d3, d4, d5, d6⟩ := rd
  refine ⟨by rw [h7, h8, d]; exact d1, by rw [d]; exact d2, by rw [h7, d]; exact d3, by rw [h0]; exact d4, fun t r ht hr => ?_, by rw [d]; exact d6⟩
  obtain ⟨m, a, b, c, e⟩ := d5 t r ht hr
  refine ⟨m, a, b, by rw [h7]; exact c, fun i hi => ?_⟩
  rw [h9, d]
  exact e i hi
/-- the model's end of an item with a fault -/
theorem item_fault {v v' : sd_H} {k t j q : Nat} {y : UInt64} (mc : MSc v' v) (hq : q < 3) (e38 : v'.1 126 38 = nI q) : YM_item_B92 v' (nI k) (nI t) (nI j) y = some (wI v' 150 q (v.1 150 q + 1), 0) := by
  unfold YM_item_B92
  rw [e38, if_neg (nm1 (by omega)), inB_n hq (by omega), gd_t, gd_t, nI_clamp (by omega), hb_s, mc.1 150 (by omega)]
theorem item_e {P : Nat} {T : Nat → Int32} {mx : Bool} {N S : Nat} {w0 g v : sd_H} {k t j : Nat} (rs : RS P T mx N S g v) (rd : RD P T mx w0 g v) (hk : k < S) (ht : t < 10) :
    ∃ g' f, XU_doItem g (8 + 5 * k) (nI t) (nI j) = some (g', f) ∧ FX P g' g ∧ ∃ v', YM_item v (nI k) (nI t) (nI j) = some (v', bi (decide (f = -1))) ∧ FM v' v ∧ RD P T mx w0 g' v' ∧ CO v' v f := by
  have rs' := rs
  have rd' := rd
  obtain ⟨s1, s2, s3, s4, s5, s6, s7, s8⟩ := rs
  obtain ⟨d1, d2, d3, d4, d5, d6⟩ := rd
  have hS := s3.2.1
  have hk5 : k < 5 := by omega
  have ik := s3.2.2.2.2.2.2 k hk
  obtain ⟨o, ho, eo⟩ := ik.1.2.2.2.2.2.1
  obtain ⟨r0, hr0, t0, gt⟩ := (ref_row ik (show 0 < 3 by omega)).resolve_left (fun z => z.2 rfl)
  rw [Nat.add_zero] at t0 gt
  have fo := XU_faultOf_e s2 (P_sh s1) d1 ik (t := t) (j := j)
  have c3 : (3 : Int32) * nI k = nI (3 * k) := by rw [lit 3, pk_mul]
  have c31 : nI (3 * k) + 1 = nI (3 * k + 1) := nI_1 _
  have c32 : nI (3 * k) + 2 = nI (3 * k + 2) := by rw [lit 2, nI_add]
  -- the model reads a reference
  have mread : ∀ v', MSc v' v → ∀ w, 1 ≤ w → w < 3 → ∃ y, YM_read v' (nI (3 * k + w)) (nI t) (nI j) = some ((if lk v (3 * k + w) = true then wI v' 126 38 (if ok v (3 * k + w) t j = true then -1 else fa v (gr v (3 * k + w)) (pl v (3 * k + w) t j)) else v'), y) ∧
      (ok v (3 * k + w) t j = true → okc y ∧ ∃ z, XU_read g (8 + 5 * k) (nI w) (nI t) (nI j) = some z ∧ okc z ∧ (z = y ∨ w = 2 ∧ o = 9)) := fun v' mc w hw1 hw => by
    have sl := MSc_sl mc
    cases l : lk v (3 * k + w) with
    | true =>
      obtain ⟨r, hr, c, gc⟩ := (ref_row ik hw).resolve_left (fun z => by
        have : lk v (3 * k + w) = false := by
          unfold lk
          rw [z.1]
          rfl
        rw [this] at l
        exact absurd l (by decide))
      have oe : ok v (3 * k + w) t j = hp v r (pl v (3 * k + w) t j) := by
        unfold ok
        rw [l, gc]
        rfl
      rw [if_pos rfl]
      by_cases hh : hp v r (pl v (3 * k + w) t j) = true
      · obtain ⟨i, z, h1, h2, h3, h4⟩ := hp_in s4 hr hh
        have nbt : nb (v.1 127 r) = true := by
          unfold hp at hh
          rw [Bool.and_eq_true] at hh
          exact hh.1
        obtain ⟨x1, x2⟩ := XU_read_e rs' rd' hk hw ht hr (show i < 24 by omega) c l h3 nbt
        have y1 := YM_read_e rs' rd' mc hk hw ht hr (show i < 24 by omega) c l h3 (by rw [← h3]; exact hh)
        rw [if_pos (oe.trans hh)]
        exact ⟨_, y1, fun _ => ⟨x2, _, x1, x2, Or.inl rfl⟩⟩
      · have er' : v'.1 137 (3 * k + w) = nI r := by rw [sl.2.2.2.2.2.1]; exact c
        have f0 : ¬ fa v r (pl v (3 * k + w) t j) = -1 := by rw [fa_m1]; exact hh
        rw [if_neg (by rw [oe]; exact hh), gc]
        refine ⟨FP.dconst0, ?_, fun q => absurd (oe ▸ q) hh⟩
        unfold YM_read
        rw [YM_isLooked_e hk5 hw, b1_s, lk_c sl, l, if_neg (show ¬ bi true = 0 by decide), YM_lacksPlace_e (by rw [sl.2.2.1]; exact s4) (by omega) hr er', b1_s, hb_s, wI_eq]
        have fe : fa v' r (pl v' (3 * k + w) t j) = fa v r (pl v (3 * k + w) t j) := by
          unfold fa
          rw [hp_c sl, pl_c sl, sl.2.1]
        rw [fe, if_neg f0]
    | false =>
      rw [if_neg (by decide)]
      refine ⟨FP.i2d (v.1 138 (3 * k + w)), ?_, fun _ => ⟨okc_i2d _, ?_⟩⟩
      · unfold YM_read
        rw [YM_isLooked_e hk5 hw, b1_s, lk_c sl, l, if_pos (show bi false = 0 from rfl), inB_n (by omega) (by omega), gd_t, nI_clamp (by omega), mc.1 138 (by omega)]
      · have R := ik.2 w hw
        unfold XU_read
        rw [inB_n hw (by omega), gd_t, nI_clamp (by omega), show 8 + 5 * k + 1 + 1 + w = 10 + 5 * k + w by omega, XA_looksAt_e ik hw, b1_s]
        unfold XF_isConstant
        rw [R.1, R.2.1]
        rcases ref_row ik hw with ⟨c, _⟩ | ⟨r, hr, c, gc⟩
        · rw [if_pos c, b1_s, if_neg (show ¬ (1 : Int32) = 0 by decide)]
          by_cases q : bi (decide (w < 2) || !decide (v.1 132 k = 9)) = 0
          · rw [if_pos q]
            refine ⟨_, rfl, okc_0, Or.inr ?_⟩
            rw [bi_0, Bool.or_eq_false_iff, decide_eq_false_iff_not, Bool.not_eq_false', decide_eq_true_eq, eo] at q
            exact ⟨by omega, (nI_eq (b := 9) (by omega) (by omega)).mp q.2⟩
          · rw [if_neg q]
            exact ⟨_, rfl, okc_i2d _, Or.inl rfl⟩
        · have lw := lk_w hw hr c
          rw [l] at lw
          rw [← lw, if_pos (show bi false = 0 from rfl)]
          refine ⟨_, rfl, okc_0, Or.inr ?_⟩
          have q := lw.symm
          rw [Bool.or_eq_false_iff, decide_eq_false_iff_not, Bool.not_eq_false', decide_eq_true_eq, eo] at q
          exact ⟨by omega, (nI_eq (b := 9) (by omega) (by omega)).mp q.2⟩
  have mc0 : MSc (wI v 126 38 (-1)) v := MSc_w (MSc_r v) (Or.inl rfl)
  have faq : ∀ r p, ¬ fa v r p = -1 → ∃ q, q < 3 ∧ fa v r p = nI q := fun r p h => by
    unfold fa at h ⊢
    split
    · rename_i z
      rw [if_pos z] at h
      exact absurd rfl h
    · split
      · exact ⟨1, by omega, rfl⟩
      · exact ⟨0, by omega, rfl⟩
  -- a fault
  have fault : ∀ vv y q, MSc vv v → q < 3 → FO v k t j = nI q → vv.1 126 38 = nI q → YM_item v (nI k) (nI t) (nI j) = YM_item_B92 vv (nI k) (nI t) (nI j) y →
      ∃ g' f, XU_doItem g (8 + 5 * k) (nI t) (nI j) = some (g', f) ∧ FX P g' g ∧ ∃ v', YM_item v (nI k) (nI t) (nI j) = some (v', bi (decide (f = -1))) ∧ FM v' v ∧ RD P T mx w0 g' v' ∧ CO v' v f := fun vv y q mc hq ef e38 ey => by
    refine ⟨g, nI q, ?_, FX_r P g, wI vv 150 q (v.1 150 q + 1), ?_, ?_, ?_, ?_⟩
    · unfold XU_doItem
      rw [fo, b1_s, ef, if_neg (nm1 (by omega))]
    · rw [ey, item_fault mc hq e38, decide_eq_false (nm1 (k := q) (by omega))]
      rfl
    · refine ⟨fun c h1 h2 h3 h4 => by rw [wI_ne h4]; exact mc.1 c h1, fun k h1 h2 h3 => by rw [wI_ne (by omega)]; exact mc.2.1 k h2 h3, fun c _ _ => by rw [wI_d, mc.2.2], by rw [show (wI vv 150 q (v.1 150 q + 1)).2 = vv.2 from rfl, mc.2.2]⟩
    · refine RD_m rd' ?_ ?_ ?_ ?_ ?_
      · rw [wI_ne (by omega)]
        exact mc.1 127 (by omega)
      · rw [wI_ne (by omega)]
        exact mc.1 128 (by omega)
      · rw [wI_ne (by omega)]
        exact mc.1 130 (by omega)
      · rw [wI_ne (by omega)]
        exact mc.1 149 (by omega)
      · exact mc.2.2
    · refine Or.inr ⟨q, hq, rfl, ?_, ?_⟩
      · rw [wI_ne (by omega)]
        exact mc.2.1 34 (by omega) (by omega)
      · refine funext fun a => ?_
        unfold up
        rw [wI_i, mc.1 150 (by omega)]
        by_cases z : a = q
        · rw [if_pos ⟨rfl, z⟩, if_pos z]
        · rw [if_neg (fun y => z y.2), if_neg z]
  obtain ⟨y1, m1, n1⟩ := mread (wI v 126 38 (-1)) mc0 1 (by omega) (by omega)
  have start : YM_item v (nI k) (nI t) (nI j) = b2 (YM_read (wI v 126 38 (-1)) (nI (3 * k + 1)) (nI t) (nI j)) (fun h4 t5 => (if (h4.1 126 38) = (-1) then b2 (YM_read h4 (nI (3 * k + 2)) (nI t) (nI j)) (fun h34 t35 => YM_item_B41 h34 (nI k) (nI t) (nI j) t5 t35) else YM_item_B41 h4 (nI k) (nI t) (nI j) t5 FP.dconst0)) := by
    unfold YM_item
    rw [c3, c31, c32, hb_s]
  rw [m1, b2_s] at start
  by_cases o1 : ok v (3 * k + 1) t j = true
  · have e1 : (if lk v (3 * k + 1) = true then wI (wI v 126 38 (-1)) 126 38 (if ok v (3 * k + 1) t j = true then -1 else fa v (gr v (3 * k + 1)) (pl v (3 * k + 1) t j)) else wI v 126 38 (-1)) = wI v 126 38 (-1) := by
      rw [if_pos o1, wI_wI]
      split <;> rfl
    rw [e1, wI_eq, if_pos rfl] at start
    obtain ⟨ok1, z1, x1, oz1, ez1⟩ := n1 o1
    obtain ⟨y2, m2, n2⟩ := mread (wI v 126 38 (-1)) mc0 2 (by omega) (by omega)
    rw [m2, b2_s] at start
    by_cases o2 : ok v (3 * k + 2) t j = true
    · have e2 : (if lk v (3 * k + 2) = true then wI (wI v 126 38 (-1)) 126 38 (if ok v (3 * k + 2) t j = true then -1 else fa v (gr v (3 * k + 2)) (pl v (3 * k + 2) t j)) else wI v 126 38 (-1)) = wI v 126 38 (-1) := by
        rw [if_pos o2, wI_wI]
        split <;> rfl
      obtain ⟨ok2, z2, x2, oz2, ez2⟩ := n2 o2
      have sl0 := MSc_sl mc0
      have er0 : (wI v 126 38 (-1)).1 137 (3 * k) = nI r0 := by rw [sl0.2.2.2.2.2.1]; exact t0
      have fe : fa (wI v 126 38 (-1)) r0 (pl (wI v 126 38 (-1)) (3 * k) t j) = fa v r0 (pl v (3 * k) t j) := by
        unfold fa
        rw [hp_c sl0, pl_c sl0, sl0.2.1]
      rw [e2] at start
      unfold YM_item_B41 YM_item_B68 at start
      rw [wI_eq, if_pos rfl, c3, YM_lacksPlace_e (by rw [sl0.2.2.1]; exact s4) (show 3 * k < 15 by omega) hr0 er0, b1_s, fe, hb_s, wI_wI, wI_eq] at start
      have FOe : FO v k t j = fa v r0 (pl v (3 * k) t j) := by
        unfold FO
        rw [if_pos o1, if_pos o2, gt]
      by_cases hh : hp v r0 (pl v (3 * k) t j) = true
      · have f1 : fa v r0 (pl v (3 * k) t j) = -1 := by rw [fa_m1]; exact hh
        rw [f1, if_pos rfl] at start
        have nf := NF_of (FOe.trans f1)
        obtain ⟨i, zz, h1, h2, h3, h4⟩ := hp_in s4 hr0 hh
        have nbt : nb (v.1 127 r0) = true := by
          unfold hp at hh
          rw [Bool.and_eq_true] at hh
          exact hh.1
        obtain ⟨f, hf, ef⟩ := nb_of nbt
        -- width, computing
        have mc1 : MSc (wI (wI v 126 38 (-1)) 126 39 0) v := MSc_w mc0 (Or.inr rfl)
        have sl1 := MSc_sl mc1
        have wdx := XR_widthOf_e d1 ik nf
        have nf' : NF (wI (wI v 126 38 (-1)) 126 39 0) k := fun w hw l => by
          rw [lk_c sl1] at l
          obtain ⟨f, a, b, c⟩ := nf w hw l
          refine ⟨f, a, by rw [sl1.2.1, gr_c sl1]; exact b, ?_⟩
          unfold wf
          rw [lk_c sl1, sl1.2.1, gr_c sl1]
          exact c
        have wdc : WD (wI (wI v 126 38 (-1)) 126 39 0) k = WD v k := by
          unfold WD WDn IA wf
          rw [lk_c sl1, sl1.2.1, gr_c sl1, sl1.2.2.2.1]
        have wdm := YM_widthOf_e (MSc_ik mc1 hk5 ik) hk5 nf'
        rw [wdc] at wdm
        have hwc := WD_cs nf
        have ia : (6 ≤ o ∧ o ≤ 8 ∨ 11 ≤ o) → WD v k = 1 := fun q => by
          unfold WD IA
          rw [eo, if_pos]
          rw [decide_eq_true_eq, show (6 ≤ nI o) = (6 ≤ o) from propext (nI_leI (a := 6) (by omega) (by omega)), show (nI o ≤ 8) = (o ≤ 8) from propext (nI_leI (b := 8) (by omega) (by omega)), show (11 ≤ nI o) = (11 ≤ o) from propext (nI_leI (a := 11) (by omega) (by omega))]
          exact q
        obtain ⟨W, eW⟩ : ∃ W, WD v k = W := ⟨_, rfl⟩
        rw [eW] at wdx wdm hwc ia
        have does : YM_does (wI v 126 38 (-1)) (nI k) y1 y2 = DO (wI (wI v 126 38 (-1)) 126 39 0) (nI W) (nI o) y1 y2 := by
          unfold YM_does DO
          rw [hb_s, inB_n hk5 (by omega), gd_t, wdm, b1_s, nI_clamp (by omega), sl1.2.2.2.1, eo]
        -- what is computed, x's and the model's
        have ca : ∃ lx rx ov tk tt, XN_cast (nI W) z1 = some lx ∧ XN_cast (nI W) z2 = some rx ∧ (11 ≤ o → XN_isOver (nI o) (FP.d2i lx) (FP.d2i rx) = some (bi ov)) ∧ (o < 11 → ov = false) ∧
            (o = 10 → (Op.cmpValue (FP.dcmp lx rx) .l ≤ 0) = (tk = false)) ∧ (¬ o = 10 → tk = true) ∧ (ov = false → tk = true → XN_calculate (nI o) (nI W) lx rx = some tt ∧ okc tt) ∧
            ∀ h, DO h (nI W) (nI o) y1 y2 = some (if o = 10 then wI h 126 39 (bi (!tk)) else if 11 ≤ o then wI h 126 38 (if ov = true then 2 else -1) else h, tt) := by
          have ez1' : z1 = y1 := ez1.resolve_right (fun q => absurd q.1 (by decide))
          subst ez1'
          rcases ez2 with ez2 | ⟨_, o9⟩
          · subst ez2
            obtain ⟨lx, rx, q1, q2, ov, tk, q3, q4, q5, q6, tt, q7, q8⟩ := CA_all (w := W) ho hwc ia ok1 ok2
            exact ⟨lx, rx, ov, tk, tt, q1, q2, q3, q4, q5, q6, q7, q8⟩
          · subst o9
            obtain ⟨lx, rx, q1, q2, ov, tk, q3, q4, q5, q6, tt, q7, q8⟩ := CA_all (w := W) ho hwc ia ok1 oz2
            obtain ⟨lx', rx', p1, p2, ov', tk', p3, p4, p5, p6, tt', p7, p8⟩ := CA_all (w := W) ho hwc ia ok1 ok2
            rw [q1] at p1
            cases p1
            have a1 := (q7 (q4 (by decide)) (q6 (by decide))).1
            have a2 := (p7 (p4 (by decide)) (p6 (by decide))).1
            have c9 : ∀ a b, XN_calculate (nI 9) (nI W) a b = some a := fun _ _ => rfl
            rw [c9] at a1 a2
            have et : tt = tt' := Option.some.inj (a1.symm.trans a2)
            subst et
            have o1' := q4 (by decide)
            have o2' := p4 (by decide)
            have k1 := q6 (by decide)
            have k2 := p6 (by decide)
            exact ⟨lx, rx, ov, tk, tt, q1, q2, q3, q4, q5, q6, q7, fun h => by rw [p8 h, k1, k2, o1', o2']⟩
        obtain ⟨lx, rx, ov, tk, tt, q1, q2, q3, q4, q5, q6, q7, q8⟩ := ca
        rw [does, q8, b2_s] at start
        -- x's item, up to the computing
        have xs : XU_doItem g (8 + 5 * k) (nI t) (nI j) = b1 (XA_mayBeOver g (8 + 5 * k)) (fun t18 => (if t18 = 0 then XU_doItem_B83 g (8 + 5 * k) (nI t) (nI j) (nI W) lx rx else b1 (XN_isOver (g.1 (8 + 5 * k) 1) (FP.d2i lx) (FP.d2i rx)) (fun t27 => (if t27 = 0 then XU_doItem_B83 g (8 + 5 * k) (nI t) (nI j) (nI W) lx rx else some (g, 2))))) := by
          unfold XU_doItem
          rw [fo, b1_s, FOe, f1, if_pos rfl, op_e s2 (P_sh s1), wdx, b1_s, show XU_read g (8 + 5 * k) 1 (nI t) (nI j) = some z1 from x1, b1_s, q1, b1_s, show XU_read g (8 + 5 * k) 2 (nI t) (nI j) = some z2 from x2, b1_s, q2, b1_s]
        rw [XA_mayBeOver_e ik, b1_s, ik.1.1, eo, itp (bi_0 _), show decide (11 ≤ nI o) = decide (11 ≤ o) from decide_eq_decide.mpr (nI_leI (a := 11) (by omega) (by omega))] at xs
        by_cases over : ov = true
        · -- over
          have o11 : 11 ≤ o := Nat.le_of_not_lt fun z => by
            rw [q4 z] at over
            exact absurd over (by decide)
          have xo : XU_doItem g (8 + 5 * k) (nI t) (nI j) = some (g, 2) := by
            rw [xs, decide_eq_true o11, if_neg (show ¬ true = false by decide), q3 o11, b1_s, over, if_neg (show ¬ bi true = 0 by decide)]
          rw [if_neg (by omega), if_pos o11, over, if_pos rfl] at start
          have mc2 : MSc (wI (wI (wI v 126 38 (-1)) 126 39 0) 126 38 2) v := MSc_w mc1 (Or.inl rfl)
          refine ⟨g, 2, xo, FX_r P g, wI (wI (wI (wI v 126 38 (-1)) 126 39 0) 126 38 2) 150 2 (v.1 150 2 + 1), ?_, ?_, ?_, ?_⟩
          · rw [start, item_fault (q := 2) mc2 (by omega) (by rw [wI_eq]; rfl)]
            rfl
          · refine ⟨fun c h1 h2 h3 h4 => by rw [wI_ne h4]; exact mc2.1 c h1, fun k h1 h2 h3 => by rw [wI_ne (by omega)]; exact mc2.2.1 k h2 h3, fun c _ _ => by rw [wI_d, mc2.2.2], mc2.2.2 ▸ rfl⟩
          · refine RD_m rd' ?_ ?_ ?_ ?_ ?_
            · rw [wI_ne (by omega)]
              exact mc2.1 127 (by omega)
            · rw [wI_ne (by omega)]
              exact mc2.1 128 (by omega)
            · rw [wI_ne (by omega)]
              exact mc2.1 130 (by omega)
            · rw [wI_ne (by omega)]
              exact mc2.1 149 (by omega)
            · exact mc2.2.2
          · refine Or.inr ⟨2, by omega, rfl, ?_, ?_⟩
            · rw [wI_ne (by omega)]
              exact mc2.2.1 34 (by omega) (by omega)
            · refine funext fun a => ?_
              unfold up
              rw [wI_i, mc2.1 150 (by omega)]
              by_cases z : a = 2
              · rw [if_pos ⟨rfl, z⟩, if_pos z]
              · rw [if_neg (fun y => z y.2), if_neg z]
        · -- not over
          have ovf := Bool.eq_false_iff.mpr over
          have xb : XU_doItem g (8 + 5 * k) (nI t) (nI j) = XU_doItem_B83 g (8 + 5 * k) (nI t) (nI j) (nI W) lx rx := by
            rw [xs]
            by_cases o11 : 11 ≤ o
            · rw [decide_eq_true o11, if_neg (show ¬ true = false by decide), q3 o11, b1_s, ovf, if_pos (show bi false = 0 from rfl)]
            · rw [decide_eq_false o11, if_pos rfl]
          -- the model's heap behind the computing
          obtain ⟨vv, evv⟩ : ∃ vv, (if o = 10 then wI (wI (wI v 126 38 (-1)) 126 39 0) 126 39 (bi (!tk)) else if 11 ≤ o then wI (wI (wI v 126 38 (-1)) 126 39 0) 126 38 (if ov = true then 2 else -1) else wI (wI v 126 38 (-1)) 126 39 0) = vv := ⟨_, rfl⟩
          have mcv : MSc vv v := by
            rw [← evv]
            split
            · exact MSc_w mc1 (Or.inr rfl)
            · split
              · exact MSc_w mc1 (Or.inl rfl)
              · exact mc1
          have e38 : vv.1 126 38 = -1 := by
            rw [← evv, ovf, if_neg (show ¬ false = true by decide)]
            split
            · simp (disch := omega) only [wI_d, wD_i, fI_d, fD_i, wI_eq, wD_eq, wI_ne, wD_ne, fI_ne, fD_ne, wI_ns, wD_ns, fI_eq, fD_eq, fI_ns, fD_ns]
            · split
              · simp (disch := omega) only [wI_d, wD_i, fI_d, fD_i, wI_eq, wD_eq, wI_ne, wD_ne, fI_ne, fD_ne, wI_ns, wD_ns, fI_eq, fD_eq, fI_ns, fD_ns]
              · simp (disch := omega) only [wI_d, wD_i, fI_d, fD_i, wI_eq, wD_eq, wI_ne, wD_ne, fI_ne, fD_ne, wI_ns, wD_ns, fI_eq, fD_eq, fI_ns, fD_ns]
          have e39 : vv.1 126 39 = bi (!tk) := by
            rw [← evv]
            by_cases o10 : o = 10
            · rw [if_pos o10, wI_eq]
            · rw [if_neg o10, q6 o10]
              split
              · simp (disch := omega) only [wI_d, wD_i, fI_d, fD_i, wI_eq, wD_eq, wI_ne, wD_ne, fI_ne, fD_ne, wI_ns, wD_ns, fI_eq, fD_eq, fI_ns, fD_ns]
                rfl
              · simp (disch := omega) only [wI_d, wD_i, fI_d, fD_i, wI_eq, wD_eq, wI_ne, wD_ne, fI_ne, fD_ne, wI_ns, wD_ns, fI_eq, fD_eq, fI_ns, fD_ns]
                rfl
          rw [evv] at start
          unfold YM_item_B92 at start
          rw [e38, if_pos rfl, e39, itp (bi_0 _)] at start
          have eo' : (nI o = 10) = (o = 10) := nI_eqI (b := 10) (by omega) (by omega)
          unfold XU_doItem_B83 at xb
          rw [ik.1.1, eo, itp eo'] at xb
          cases tk with
          | false =>
            -- not taken
            have o10 : o = 10 := Decidable.byContradiction fun z => absurd (q6 z) (by decide)
            have le0 := q5 o10
            rw [if_pos o10, if_pos (by rw [le0])] at xb
            rw [if_neg (by decide)] at start
            unfold YM_item_B172 at start
            rw [hb_s] at start
            refine ⟨g, -1, xb, FX_r P g, wI vv 126 34 (vv.1 126 34 + 1), ?_, ?_, ?_, ?_⟩
            · rw [start]
              rfl
            · refine ⟨fun c h1 _ _ _ => by rw [wI_ne h1]; exact mcv.1 c h1, fun k h1 h2 h3 => by rw [wI_ns h1]; exact mcv.2.1 k h2 h3, fun c _ _ => by rw [wI_d, mcv.2.2], mcv.2.2 ▸ rfl⟩
            · refine RD_m rd' ?_ ?_ ?_ ?_ mcv.2.2
              · rw [wI_ne (by omega)]
                exact mcv.1 127 (by omega)
              · rw [wI_ne (by omega)]
                exact mcv.1 128 (by omega)
              · rw [wI_ne (by omega)]
                exact mcv.1 130 (by omega)
              · rw [wI_ne (by omega)]
                exact mcv.1 149 (by omega)
            · refine Or.inl ⟨rfl, ?_, ?_⟩
              · rw [wI_eq, mcv.2.1 34 (by omega) (by omega)]
              · rw [wI_ne (by omega)]
                exact mcv.1 150 (by omega)
          | true =>
            obtain ⟨a7, b7⟩ := q7 ovf rfl
            have xb2 : XU_doItem g (8 + 5 * k) (nI t) (nI j) = XU_doItem_B100 g (8 + 5 * k) (nI t) (nI j) (nI W) lx rx := by
              rw [xb]
              by_cases o10 : o = 10
              · have le0 := q5 o10
                rw [if_pos o10, if_neg (by rw [le0]; decide)]
              · rw [if_neg o10]
            obtain ⟨kept, ek, okk⟩ := castTo_ok hf b7
            obtain ⟨m, hm, em, _, _⟩ := d5 t r0 ht hr0
            have xw := XU_write_e rs' rd' hk ht hr0 (show i < 24 by omega) hf t0 h3 ef ek em
            have slv := MSc_sl mcv
            have yw := YM_writes_e (x := kept) rs' mcv ht hr0 (show i < 24 by omega)
            unfold XU_doItem_B100 at xb2
            rw [ik.1.1, eo, a7, b1_s, show 8 + 5 * k + 1 + 1 + 0 = 10 + 5 * k by omega, xw, b1_s] at xb2
            rw [if_pos (by decide), c3, inB_n (show 3 * k < 15 by omega) (by omega), gd_t, YM_placeOf_e (by omega), b1_s, gd_t, pl_c slv, h3, nI_clamp (by omega), slv.2.2.2.2.2.1, t0, inB_n hr0 (by omega), gd_t, nI_clamp (by omega), slv.2.1, ef, ek, b1_s, e_24, yw, b1_s] at start
            unfold YM_item_B172 at start
            rw [hb_s] at start
            have RW := RD_w (x := kept) rs' rd' ht hr0 (show i < 24 by omega) okk nbt mcv m em hm rfl rfl
            obtain ⟨vw, evw⟩ : ∃ vw, (if T r0 = 3 then wI (wD vv 148 (144 * t + (24 * r0 + i)) kept) 149 (144 * t + (24 * r0 + i)) 1 else wI (wD vv 129 (24 * r0 + i) kept) 130 (24 * r0 + i) (if T r0 = 2 then (if v.1 130 (24 * r0 + i) ≤ nI t then nI t else v.1 130 (24 * r0 + i)) else nI t)) = vw := ⟨_, rfl⟩
            rw [evw] at start RW
            have c126 : vw.1 126 = vv.1 126 := by
              rw [← evw]
              split
              · simp (disch := omega) only [wI_d, wD_i, fI_d, fD_i, wI_eq, wD_eq, wI_ne, wD_ne, fI_ne, fD_ne, wI_ns, wD_ns, fI_eq, fD_eq, fI_ns, fD_ns]
              · simp (disch := omega) only [wI_d, wD_i, fI_d, fD_i, wI_eq, wD_eq, wI_ne, wD_ne, fI_ne, fD_ne, wI_ns, wD_ns, fI_eq, fD_eq, fI_ns, fD_ns]
            have c150 : vw.1 150 = vv.1 150 := by
              rw [← evw]
              split
              · simp (disch := omega) only [wI_d, wD_i, fI_d, fD_i, wI_eq, wD_eq, wI_ne, wD_ne, fI_ne, fD_ne, wI_ns, wD_ns, fI_eq, fD_eq, fI_ns, fD_ns]
              · simp (disch := omega) only [wI_d, wD_i, fI_d, fD_i, wI_eq, wD_eq, wI_ne, wD_ne, fI_ne, fD_ne, wI_ns, wD_ns, fI_eq, fD_eq, fI_ns, fD_ns]
            have cc : ∀ c, ¬ c = 130 → ¬ c = 149 → vw.1 c = vv.1 c := fun c h1 h2 => by
              rw [← evw]
              split
              · simp (disch := omega) only [wI_d, wD_i, fI_d, fD_i, wI_eq, wD_eq, wI_ne, wD_ne, fI_ne, fD_ne, wI_ns, wD_ns, fI_eq, fD_eq, fI_ns, fD_ns]
              · simp (disch := omega) only [wI_d, wD_i, fI_d, fD_i, wI_eq, wD_eq, wI_ne, wD_ne, fI_ne, fD_ne, wI_ns, wD_ns, fI_eq, fD_eq, fI_ns, fD_ns]
            have cd : ∀ c, ¬ c = 129 → ¬ c = 148 → vw.2.1 c = vv.2.1 c := fun c h1 h2 => by
              rw [← evw]
              split
              · simp (disch := omega) only [wI_d, wD_i, fI_d, fD_i, wI_eq, wD_eq, wI_ne, wD_ne, fI_ne, fD_ne, wI_ns, wD_ns, fI_eq, fD_eq, fI_ns, fD_ns]
              · simp (disch := omega) only [wI_d, wD_i, fI_d, fD_i, wI_eq, wD_eq, wI_ne, wD_ne, fI_ne, fD_ne, wI_ns, wD_ns, fI_eq, fD_eq, fI_ns, fD_ns]
            have cr : vw.2.2 = vv.2.2 := by
              rw [← evw]
              split <;> rfl
            refine ⟨_, -1, xb2, FX_w, wI vw 126 34 (vw.1 126 34 + 1), ?_, ?_, ?_, ?_⟩
            · rw [start]
              rfl
            · refine ⟨fun c h1 h2 h3 _ => by rw [wI_ne h1, cc c h2 h3]; exact mcv.1 c h1, fun k h1 h2 h3 => by rw [wI_ns h1, c126]; exact mcv.2.1 k h2 h3, fun c h1 h2 => by rw [wI_d, cd c h1 h2, mcv.2.2], ?_⟩
              show vw.2.2 = _
              rw [cr, mcv.2.2]
            · exact RD_m RW (wI_ne (by omega)) (wI_ne (by omega)) (wI_ne (by omega)) (wI_ne (by omega)) rfl
            · refine Or.inl ⟨rfl, ?_, ?_⟩
              · rw [wI_eq, c126, mcv.2.1 34 (by omega) (by omega)]
              · rw [wI_ne (by omega), c150]
                exact mcv.1 150 (by omega)
      · -- the target is not there
        have f1 : ¬ fa v r0 (pl v (3 * k) t j) = -1 := by rw [fa_m1]; exact hh
        obtain ⟨q, hq, eq⟩ := faq _ _ f1
        rw [eq, if_neg (nm1 (by omega))] at start
        exact fault (wI v 126 38 (nI q)) FP.dconst0 q (MSc_w (MSc_r v) (Or.inl rfl)) hq (FOe.trans eq) wI_eq start
    · -- RIGHT is not there
      have l2 : lk v (3 * k + 2) = true := by
        cases l : lk v (3 * k + 2) with
        | true => rfl
        | false =>
          unfold ok at o2
          rw [l] at o2
          exact absurd rfl o2
      have f2 : ¬ fa v (gr v (3 * k + 2)) (pl v (3 * k + 2) t j) = -1 := by
        rw [fa_m1]
        intro z
        apply o2
        unfold ok
        rw [z, Bool.or_true]
      obtain ⟨q, hq, eq⟩ := faq _ _ f2
      rw [l2, if_pos rfl, if_neg o2, wI_wI, eq] at start
      unfold YM_item_B41 YM_item_B68 at start
      rw [wI_eq, if_neg (nm1 (by omega)), hb_s, wI_wI, wI_eq, if_neg (nm1 (by omega))] at start
      exact fault (wI v 126 38 (nI q)) FP.dconst0 q (MSc_w (MSc_r v) (Or.inl rfl)) hq (by unfold FO; rw [if_pos o1, if_neg o2]; exact eq) wI_eq start
  · -- LEFT is not there
    have l1 : lk v (3 * k + 1) = true := by
      cases l : lk v (3 * k + 1) with
      | true => rfl
      | false =>
        unfold ok at o1
        rw [l] at o1
        exact absurd rfl o1
    have f2 : ¬ fa v (gr v (3 * k + 1)) (pl v (3 * k + 1) t j) = -1 := by
      rw [fa_m1]
      intro z
      apply o1
      unfold ok
      rw [z, Bool.or_true]
    obtain ⟨q, hq, eq⟩ := faq _ _ f2
    rw [l1, if_pos rfl, if_neg o1, wI_wI, eq, wI_eq, if_neg (nm1 (by omega))] at start
    unfold YM_item_B41 YM_item_B68 at start
    rw [wI_eq, if_neg (nm1 (by omega)), hb_s, wI_wI, wI_eq, if_neg (nm1 (by omega))] at start
    exact fault (wI v 126 38 (nI q)) FP.dconst0 q (MSc_w (MSc_r v) (Or.inl rfl)) hq (by unfold FO; rw [if_neg o1]; exact eq) wI_eq start
