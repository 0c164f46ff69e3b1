/-! ===== what is asked of a statement, of a place, of the sets; the model's cells in v ===== -/
def bi (b : Bool) : Int32 := if b = true then 1 else 0
theorem bi_t : bi true = 1 := rfl
theorem bi_f : bi false = 0 := rfl
theorem bi_B (b : Bool) : sd_isB (bi b) = true := by cases b <;> rfl
theorem bi_0 (b : Bool) : (bi b = 0) = (b = false) := by cases b <;> decide
/-- a cell is not 0 -/
def nzc (x : UInt64) : Bool := decide (¬ Op.cmpValue (FP.dcmp x FP.dconst0) .l = 0)
/-- statement k is done in turn i -/
def dn (v : sd_H) (k i : Nat) : Bool :=
  decide (nI k < v.1 126 7) && decide (i < 10) && decide (nI i - nI i / v.1 134 k * v.1 134 k = v.1 135 k) &&
  (decide (v.1 136 k = -1) || (decide (v.1 127 (v.1 136 k).toNatClampNeg = 4) && decide (nI i < v.1 128 (v.1 136 k).toNatClampNeg) && nzc (v.2.1 129 (24 * (v.1 136 k).toNatClampNeg + i))))
/-- reference e is looked at -/
def lk (v : sd_H) (e : Nat) : Bool := !decide (v.1 137 e = -1) && (decide (e % 3 < 2) || !decide (v.1 132 (e / 3) = 9))
def pl (v : sd_H) (e i j : Nat) : Int32 := v.1 138 e + v.1 139 e * nI i + v.1 140 e * nI j
def nb (f : Int32) : Bool := decide (0 ≤ f) && decide (f ≤ 3)
/-- row r is of numbers and has place p -/
def hp (v : sd_H) (r : Nat) (p : Int32) : Bool := nb (v.1 127 r) && (decide (0 ≤ p) && decide (p < v.1 128 r))
def gr (v : sd_H) (e : Nat) : Nat := (v.1 137 e).toNatClampNeg
def bt (v : sd_H) (e i j : Nat) : Int32 := if hp v (gr v e) (pl v e i j) = true then 1 <<< (pl v e i j &&& 31) else 0
/-- one place of a table -/
def up (A : Nat → Int32) (i : Nat) (x : Int32) : Nat → Int32 := fun j => if j = i then x else A j
def q_rd (v : sd_H) (e t j : Nat) (C A : Nat → Int32) : Nat → Int32 :=
  if lk v e = true then up (up A (24 * t + gr v e) (A (24 * t + gr v e) ||| bt v e t j)) (24 * t + 18 + gr v e) (A (24 * t + 18 + gr v e) ||| (bt v e t j &&& (C (gr v e) ^^^ (-1)))) else A
/-- what reference e asks is there -/
def ok (v : sd_H) (e t j : Nat) : Bool := !lk v e || hp v (gr v e) (pl v e t j)
/-! a state of the walk: sets, what is covered, whether in doubt, whether it goes on -/
def q_it (v : sd_H) (k t j : Nat) (s : ((Nat → Int32) × (Nat → Int32) × Bool × Bool)) : ((Nat → Int32) × (Nat → Int32) × Bool × Bool) :=
  let A1 := q_rd v (3 * k + 1) t j s.2.1 s.1
  if ok v (3 * k + 1) t j = true then
    let A2 := q_rd v (3 * k + 2) t j s.2.1 A1
    if ok v (3 * k + 2) t j = true then
      if hp v (gr v (3 * k)) (pl v (3 * k) t j) = true then
        let b := bt v (3 * k) t j
        let r := gr v (3 * k)
        let K := s.2.2.1 || decide (11 ≤ v.1 132 k)
        let A3 := up A2 (24 * t + 6 + r) (A2 (24 * t + 6 + r) ||| b)
        let A4 := if v.1 132 k = 10 then A3 else if K = true then A3 else up A3 (24 * t + 12 + r) (A3 (24 * t + 12 + r) ||| b)
        let C := if v.1 132 k = 10 then s.2.1 else up s.2.1 r (s.2.1 r ||| b)
        (A4, C, K, true)
      else (A2, s.2.1, s.2.2.1, false)
    else (A2, s.2.1, s.2.2.1, false)
  else (A1, s.2.1, s.2.2.1, false)
/-- n items from j on -/
def q_its (v : sd_H) (k t : Nat) : Nat → Nat → ((Nat → Int32) × (Nat → Int32) × Bool × Bool) → ((Nat → Int32) × (Nat → Int32) × Bool × Bool)
  | 0, _, s => s
  | n + 1, j, s => let s1 := q_it v k t j s
    if s1.2.2.2 = true then q_its v k t n (j + 1) s1 else s1
/-- n statements from k on -/
def q_sts (v : sd_H) (t : Nat) : Nat → Nat → ((Nat → Int32) × (Nat → Int32) × Bool × Bool) → ((Nat → Int32) × (Nat → Int32) × Bool × Bool)
  | 0, _, s => s
  | n + 1, k, s => let s1 := if dn v k t = true then q_its v k t (v.1 133 k).toNatClampNeg 0 s else s
    if s1.2.2.2 = true then q_sts v t n (k + 1) s1 else s1
def q_tn (v : sd_H) (t : Nat) (A : Nat → Int32) : Nat → Int32 := (q_sts v t (v.1 126 7).toNatClampNeg 0 (A, (fun _ => 0), false, true)).1
/-- n turns from t on -/
def q_tns (v : sd_H) : Nat → Nat → (Nat → Int32) → Nat → Int32
  | 0, _, A => A
  | n + 1, t, A => q_tns v n (t + 1) (q_tn v t A)
/-- the sets: 24 turn + 6 set + row -/
def q_al (v : sd_H) : Nat → Int32 := q_tns v (v.1 126 6).toNatClampNeg 0 (fun _ => 0)
/-- the summary: stale, or the sets -/
def IS (g v : sd_H) : Prop := g.1 56 5 = 1 ∨ (g.1 56 5 = 0 ∧ ∀ s, s < 4 → ∀ a, a < 60 → g.1 (58 + s) a = q_al v (24 * (a / 6) + 6 * s + a % 6))
/-- all of it; x's side out of g, the model's out of v -/
def Iv (g v : sd_H) : Prop :=
  IR (g.1 2) (g.1 3) (g.2.1 4) (v.1 127) (v.1 128) (v.2.1 129) ∧ IW (v.1 127) (g.1 5) (v.1 130) ∧ IZ (v.1 128) ∧ IC (v.2.1 129) ∧
  (∃ N S, IL g v N S ∧ IH g v S) ∧ IT (g.1 0 15) (g.1 55) (v.1 126 20) (v.1 142) ∧ g.1 0 16 = v.1 126 4 ∧
  (g.1 107 3 = v.1 126 34 ∧ IO (g.1 107 2) (g.1 108) (g.1 109) (v.1 126 37) (v.1 150) (v.1 151)) ∧ IS g v
/-- one call: x answers, the model answers the same, and it stands behind them -/
def EE {α : Type} (o : Option (sd_H × α)) (f : sd_H → Option (sd_H × α)) : Prop := ∃ h1 r h2, o = some (h1, r) ∧ f h1 = some (h2, r) ∧ Iv h2 h2
theorem EE_i {α : Type} {o : Option (sd_H × α)} {f : sd_H → Option (sd_H × α)} {h1 h2 : sd_H} {r : α} (a : o = some (h1, r)) (b : f h1 = some (h2, r)) (i : Iv h2 h2) : EE o f := ⟨h1, r, h2, a, b, i⟩
