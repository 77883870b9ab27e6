/-! 64 bits: when a result does not fit -/
def inR (x : Int) : Bool := decide (-9223372036854775808 ≤ x ∧ x < 9223372036854775808)
def mulO (a b : Int64) : Bool := !inR (a.toInt * b.toInt)
def addO (a b : Int64) : Bool := !inR (a.toInt + b.toInt)
def subO (a b : Int64) : Bool := !inR (a.toInt - b.toInt)
theorem inR_t {x : Int} : inR x = true ↔ -9223372036854775808 ≤ x ∧ x < 9223372036854775808 := decide_eq_true_iff
theorem i64_rg (x : Int64) : -9223372036854775808 ≤ x.toInt ∧ x.toInt < 9223372036854775808 := ⟨Int64.le_toInt x, Int64.toInt_lt x⟩
theorem bm_in {x : Int} (h : -9223372036854775808 ≤ x ∧ x < 9223372036854775808) : x.bmod (2 ^ 64) = x := Int.bmod_eq_of_le_mul_two (by omega) (by omega)
theorem bm_rg (x : Int) : ∃ k : Int, x.bmod (2 ^ 64) = x + 18446744073709551616 * k ∧ -9223372036854775808 ≤ x.bmod (2 ^ 64) ∧ x.bmod (2 ^ 64) < 9223372036854775808 := by
  have h1 : -((2 ^ 64 : Nat) : Int) / 2 ≤ x.bmod (2 ^ 64) := by
    have := Int.le_bmod (x := x) (m := 2 ^ 64) (by decide)
    omega
  have h2 : x.bmod (2 ^ 64) < (((2 ^ 64 : Nat) : Int) + 1) / 2 := Int.bmod_lt (by decide)
  have h3 := Int.bmod_add_bdiv x (2 ^ 64)
  refine ⟨-(x.bdiv (2 ^ 64)), ?_, ?_, ?_⟩
  · have e : ((2 ^ 64 : Nat) : Int) = 18446744073709551616 := by decide
    rw [e] at h3
    rw [Int.mul_neg]
    omega
  · have e : -((2 ^ 64 : Nat) : Int) / 2 = -9223372036854775808 := by decide
    omega
  · have e : (((2 ^ 64 : Nat) : Int) + 1) / 2 = 9223372036854775808 := by decide
    omega
theorem tdiv_id (x y : Int) (hy : y ≠ 0) : ∃ t, x = x.tdiv y * y + t ∧ t.natAbs < y.natAbs ∧ (0 ≤ x → 0 ≤ t) ∧ (x ≤ 0 → t ≤ 0) := by
  refine ⟨x.tmod y, ?_, ?_, fun h => Int.tmod_nonneg _ h, fun h => ?_⟩
  · have := Int.tmod_add_tdiv_mul x y; omega
  · rw [Int.natAbs_tmod]
    exact Nat.mod_lt _ (by omega)
  · have := Int.tmod_nonneg (a := -x) y (by omega)
    rw [Int.neg_tmod] at this
    omega
theorem tdiv_abs (x y : Int) : (x.tdiv y).natAbs ≤ x.natAbs := by
  rw [Int.natAbs_tdiv]
  exact Nat.div_le_self _ _
/-- dividing tells whether a product fits -/
theorem mul_div {a b : Int64} (hb : b.toInt ≠ 0) (hq : (a * b).toInt.tdiv b.toInt ≠ 9223372036854775808) : (a * b) / b = a ↔ mulO a b = false := by
  have hp := i64_rg (a * b)
  have ha := i64_rg a
  have hbr := i64_rg b
  have hqa := tdiv_abs (a * b).toInt b.toInt
  have ed : ((a * b) / b).toInt = (a * b).toInt.tdiv b.toInt := by
    rw [Int64.toInt_div]
    exact bm_in (by omega)
  obtain ⟨t, t1, t2, -, -⟩ := tdiv_id (a * b).toInt b.toInt hb
  obtain ⟨k, k1, -⟩ := bm_rg (a.toInt * b.toInt)
  rw [← Int64.toInt_mul] at k1
  have e1 : (a * b) / b = a ↔ (a * b).toInt.tdiv b.toInt = a.toInt := by
    rw [← Int64.toInt_inj, ed]
  rw [e1]
  unfold mulO
  rw [Bool.not_eq_false', inR_t]
  constructor
  · intro q
    rw [q] at t1
    omega
  · intro q
    have e2 : (a * b).toInt = a.toInt * b.toInt := by rw [Int64.toInt_mul]; exact bm_in q
    rw [e2]
    exact Int.mul_tdiv_cancel _ hb
theorem mulO_comm (a b : Int64) : mulO a b = mulO b a := by
  unfold mulO
  rw [Int.mul_comm]
theorem mulO_0 {a b : Int64} (h : b.toInt = 0) : mulO a b = false := by
  unfold mulO
  rw [h, Int.mul_zero]
  decide
/-- when the quotient of a product is the one that does not fit -/
theorem mul_ex {a b : Int64} (hq : (a * b).toInt.tdiv b.toInt = 9223372036854775808) : b.toInt = -1 ∧ a.toInt = -9223372036854775808 := by
  have hp := i64_rg (a * b)
  have ha := i64_rg a
  have hqa : ((a * b).toInt.tdiv b.toInt).natAbs = (a * b).toInt.natAbs / b.toInt.natAbs := Int.natAbs_tdiv (a * b).toInt b.toInt
  rw [hq] at hqa
  have hb1 : b.toInt.natAbs = 1 := by
    have e0 : (9223372036854775808 : Int).natAbs = 9223372036854775808 := by decide
    rw [e0] at hqa
    have h1 : (a * b).toInt.natAbs ≤ 9223372036854775808 := by omega
    have h2 := Nat.div_mul_le_self (a * b).toInt.natAbs b.toInt.natAbs
    rw [← hqa] at h2
    rcases Nat.lt_or_ge b.toInt.natAbs 2 with c | c
    · rcases Nat.eq_zero_or_pos b.toInt.natAbs with c2 | c2
      · rw [c2, Nat.div_zero] at hqa; omega
      · omega
    · have := Nat.mul_le_mul_left 9223372036854775808 c
      omega
  have hb2 : b.toInt = 1 ∨ b.toInt = -1 := by omega
  rcases hb2 with c | c
  · rw [c, Int.tdiv_one] at hq; omega
  · refine ⟨c, ?_⟩
    obtain ⟨k, k1, k2, k3⟩ := bm_rg (a.toInt * b.toInt)
    rw [← Int64.toInt_mul] at k1 k2 k3
    rw [c] at hq
    have : (a * b).toInt.tdiv (-1) = -(a * b).toInt := by rw [Int.tdiv_neg, Int.tdiv_one]
    rw [c] at k1
    omega
theorem i64_neg {x : Int64} : x.toInt < 0 ↔ x.toBitVec.msb = true := by
  show x.toBitVec.toInt < 0 ↔ _
  rw [BitVec.msb_eq_toInt, decide_eq_true_iff]
theorem sg_xor (x y : Int64) : (x ^^^ y).toInt < 0 ↔ ¬ (x.toInt < 0 ↔ y.toInt < 0) := by
  rw [i64_neg, i64_neg, i64_neg, Int64.toBitVec_xor, BitVec.msb_xor]
  cases x.toBitVec.msb <;> cases y.toBitVec.msb <;> decide
theorem sg_and (x y : Int64) : (x &&& y).toInt < 0 ↔ (x.toInt < 0 ∧ y.toInt < 0) := by
  rw [i64_neg, i64_neg, i64_neg, Int64.toBitVec_and, BitVec.msb_and, Bool.and_eq_true]
theorem add_ov (a b : Int64) : (((a ^^^ (a + b)) &&& (b ^^^ (a + b))).toInt < 0) ↔ addO a b = true := by
  have ha := i64_rg a
  have hb := i64_rg b
  obtain ⟨k, k1, k2, k3⟩ := bm_rg (a.toInt + b.toInt)
  rw [← Int64.toInt_add] at k1 k2 k3
  rw [sg_and, sg_xor, sg_xor]
  unfold addO inR
  rw [Bool.not_eq_true', decide_eq_false_iff_not]
  omega
theorem sub_ov (a b : Int64) : (((a ^^^ b) &&& (a ^^^ (a - b))).toInt < 0) ↔ subO a b = true := by
  have ha := i64_rg a
  have hb := i64_rg b
  obtain ⟨k, k1, k2, k3⟩ := bm_rg (a.toInt - b.toInt)
  rw [← Int64.toInt_sub] at k1 k2 k3
  rw [sg_and, sg_xor, sg_xor]
  unfold subO inR
  rw [Bool.not_eq_true', decide_eq_false_iff_not]
  omega
/-- to the nearest, of like ones up -/
def nrL (v y : Int64) : Int64 := if 0 ≤ (v - v / y * y).toInt then (if 2 * (v - v / y * y).toInt < y.toInt then v / y else v / y + 1) else (if 2 * ((v - v / y * y).toInt + y.toInt) < y.toInt then v / y - 1 else v / y - 1 + 1)
theorem nr_ok {v y : Int64} (hy : 0 < y.toInt) : ((v / y) * y).toInt = v.toInt - (v - v / y * y).toInt ∧ (v - v / y * y).toInt.natAbs < y.toInt.natAbs ∧ (0 ≤ v.toInt → 0 ≤ (v - v / y * y).toInt) ∧ (v.toInt ≤ 0 → (v - v / y * y).toInt ≤ 0) := by
  have hv := i64_rg v
  have hyr := i64_rg y
  obtain ⟨t, t1, t2, t3, t4⟩ := tdiv_id v.toInt y.toInt (by omega)
  have hqa := tdiv_abs v.toInt y.toInt
  have e1 : (v / y).toInt = v.toInt.tdiv y.toInt := by
    rw [Int64.toInt_div]
    have : v.toInt.tdiv y.toInt ≠ 9223372036854775808 := fun q => by
      rw [q] at t1
      have : 9223372036854775808 * 1 ≤ 9223372036854775808 * y.toInt := Int.mul_le_mul_of_nonneg_left (by omega) (by decide)
      rcases Int.le_total 0 v.toInt with c | c
      · have := t3 c; omega
      · have := t4 c; omega
    exact bm_in (by omega)
  have e2 : ((v / y) * y).toInt = v.toInt - t := by
    rw [Int64.toInt_mul, e1, show v.toInt.tdiv y.toInt * y.toInt = v.toInt - t by omega]
    refine bm_in ?_
    rcases Int.le_total 0 v.toInt with c | c
    · have := t3 c; omega
    · have := t4 c; omega
  have e3 : (v - v / y * y).toInt = t := by
    rw [Int64.toInt_sub, e2, show v.toInt - (v.toInt - t) = t by omega]
    exact bm_in (by omega)
  rw [e2, e3]
  exact ⟨rfl, t2, t3, t4⟩
