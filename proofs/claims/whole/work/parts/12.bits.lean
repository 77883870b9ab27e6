/-! the mask of the points that are left; bitCount; the seed's bits -/
theorem tb_eq {x y : Int32} (h : x.toBitVec.toNat = y.toBitVec.toNat) : x = y := Int32.toBitVec.inj (BitVec.eq_of_toNat_eq h)
theorem nI_and {a b : Nat} (ha : a < 2 ^ 32) (hb : b < 2 ^ 32) : nI a &&& nI b = nI (a &&& b) := by
  refine tb_eq ?_
  rw [Int32.toBitVec_and, BitVec.toNat_and, pk_tn ha, pk_tn hb, pk_tn (Nat.and_lt_two_pow _ hb)]
theorem nI_or {a b : Nat} (ha : a < 2 ^ 32) (hb : b < 2 ^ 32) : nI a ||| nI b = nI (a ||| b) := by
  refine tb_eq ?_
  rw [Int32.toBitVec_or, BitVec.toNat_or, pk_tn ha, pk_tn hb, pk_tn (Nat.or_lt_two_pow ha hb)]
theorem nI_xor {a b : Nat} (ha : a < 2 ^ 32) (hb : b < 2 ^ 32) : nI a ^^^ nI b = nI (a ^^^ b) := by
  refine tb_eq ?_
  rw [Int32.toBitVec_xor, BitVec.toNat_xor, pk_tn ha, pk_tn hb, pk_tn (Nat.xor_lt_two_pow ha hb)]
/-- the mask of the first k -/
def mkL (L : Nat → Bool) : Nat → Nat
  | 0 => 0
  | b + 1 => mkL L b + (if L b = true then 2 ^ b else 0)
theorem mkL_lt (L : Nat → Bool) : ∀ k, mkL L k < 2 ^ k
  | 0 => Nat.le_refl 1
  | k + 1 => by
    have := mkL_lt L k
    unfold mkL
    rw [Nat.pow_succ]
    split <;> omega
theorem mkL_bit (L : Nat → Bool) : ∀ k j, (mkL L k).testBit j = (decide (j < k) && L j)
  | 0, j => by simp [mkL]
  | k + 1, j => by
    have hlt := mkL_lt L k
    have ih := mkL_bit L k j
    unfold mkL
    by_cases c : L k = true
    · rw [if_pos c, Nat.add_comm, show 2 ^ k + mkL L k = 2 ^ k * 1 + mkL L k by omega, Nat.two_pow_add_eq_or_of_lt hlt, Nat.mul_one, Nat.testBit_or, Nat.testBit_two_pow, ih]
      by_cases e : k = j
      · subst e; simp [c]
      · by_cases h1 : j < k
        · simp [e, h1, Nat.lt_succ_of_lt h1]
        · simp [e, h1, show ¬ j < k + 1 by omega]
    · rw [if_neg c, Nat.add_zero, ih]
      by_cases e : k = j
      · subst e; simp at c; simp [c]
      · by_cases h1 : j < k
        · simp [h1, Nat.lt_succ_of_lt h1]
        · simp [h1, show ¬ j < k + 1 by omega]
theorem mkL_congr {L L' : Nat → Bool} : ∀ {k : Nat}, (∀ j, j < k → L j = L' j) → mkL L k = mkL L' k
  | 0, _ => rfl
  | k + 1, h => by
    unfold mkL
    rw [mkL_congr (fun j hj => h j (by omega)), h k (by omega)]
theorem sh_b : ∀ b, b < 16 → ((nI b &&& 31).toBitVec.smod 32).toNat = b := by decide +kernel
/-- a bit of the mask -/
theorem mk_is {L : Nat → Bool} {b : Nat} (hb : b < 16) : ((nI (mkL L 16) >>> (nI b &&& 31)) &&& (1 : Int32)) = nI (if L b = true then 1 else 0) := by
  have hm := mkL_lt L 16
  have hm' : mkL L 16 < 65536 := hm
  rw [pk_shrN (by omega) _ b (sh_b b hb), pk_andN (k := 1) (by have : mkL L 16 / 2 ^ b ≤ mkL L 16 := Nat.div_le_self _ _; omega) (by decide)]
  congr 1
  have h1 := mkL_bit L 16 b
  rw [decide_eq_true hb, Bool.true_and] at h1
  have h2 : mkL L 16 / 2 ^ b % 2 ^ 1 = ((mkL L 16).testBit b).toNat := by
    rw [Nat.testBit_eq_decide_div_mod_eq, Nat.pow_one]
    rcases Nat.mod_two_eq_zero_or_one (mkL L 16 / 2 ^ b) with q | q <;> rw [q] <;> rfl
  rw [h2, h1]
  cases L b <;> rfl
/-- a point more -/
theorem mk_or {L : Nat → Bool} {b : Nat} (hb : b < 16) (hL : L b = true) : nI (mkL L b) ||| ((1 : Int32) <<< (nI b &&& 31)) = nI (mkL L (b + 1)) := by
  have hlt := mkL_lt L b
  have h16 : 2 ^ b < 2 ^ 16 := Nat.pow_lt_pow_right (by decide) hb
  have e1 : (1 : Int32) <<< (nI b &&& 31) = nI (2 ^ b) := by
    have := pk_shlN (n := 1) (nI b &&& 31) b (sh_b b hb) (by rw [Nat.one_mul]; omega)
    rw [Nat.one_mul] at this
    exact this
  rw [e1, nI_or (by omega) (by omega)]
  congr 1
  have e3 : mkL L (b + 1) = mkL L b + (if L b = true then 2 ^ b else 0) := rfl
  rw [e3, if_pos hL, Nat.add_comm, show 2 ^ b + mkL L b = 2 ^ b * 1 + mkL L b by omega, Nat.two_pow_add_eq_or_of_lt hlt, Nat.mul_one, Nat.or_comm]
/-- a point less -/
def rmL (L : Nat → Bool) (f : Nat) : Nat → Bool := fun j => L j && !(j == f)
theorem mk_rm {L : Nat → Bool} {f : Nat} (hf : f < 16) : nI (mkL L 16) &&& (((1 : Int32) <<< (nI f &&& 31)) ^^^ (-1 : Int32)) = nI (mkL (rmL L f) 16) := by
  have hm := mkL_lt L 16
  have hm' : mkL L 16 < 65536 := hm
  have h16 : 2 ^ f < 2 ^ 16 := Nat.pow_lt_pow_right (by decide) hf
  have h16' : 2 ^ f < 65536 := h16
  have e1 : (1 : Int32) <<< (nI f &&& 31) = nI (2 ^ f) := by
    have := pk_shlN (n := 1) (nI f &&& 31) f (sh_b f hf) (by rw [Nat.one_mul]; omega)
    rw [Nat.one_mul] at this
    exact this
  have e2 : (-1 : Int32) = nI (2 ^ 32 - 1) := by decide
  rw [e1, e2, nI_xor (by omega) (by decide), nI_and (by omega) (Nat.xor_lt_two_pow (by omega) (by decide))]
  congr 1
  refine Nat.eq_of_testBit_eq fun j => ?_
  rw [Nat.testBit_and, Nat.testBit_xor, Nat.testBit_two_pow, Nat.testBit_two_pow_sub_one, mkL_bit, mkL_bit]
  unfold rmL
  by_cases h1 : j < 16
  · have h32 : j < 32 := by omega
    by_cases h2 : f = j
    · subst h2; simp [h1, h32]
    · have h3 : (j == f) = false := by simp; omega
      simp [h1, h32, h2, h3]
  · simp [h1]
/-- how many are left of the first k -/
def cnL (L : Nat → Bool) : Nat → Nat
  | 0 => 0
  | b + 1 => cnL L b + (if L b = true then 1 else 0)
theorem cnL_le (L : Nat → Bool) : ∀ k, cnL L k ≤ k
  | 0 => Nat.le_refl _
  | k + 1 => by
    have := cnL_le L k
    unfold cnL
    split <;> omega
theorem cnL_congr {L L' : Nat → Bool} : ∀ {k : Nat}, (∀ j, j < k → L j = L' j) → cnL L k = cnL L' k
  | 0, _ => rfl
  | k + 1, h => by
    unfold cnL
    rw [cnL_congr (fun j hj => h j (by omega)), h k (by omega)]
/-- bitCount, over numbers -/
def bcN (m : Nat) : Nat :=
  let v1 := m - ((m / 2) &&& 1431655765)
  let v2 := (v1 &&& 858993459) + ((v1 / 4) &&& 858993459)
  let v3 := (v2 + v2 / 16) &&& 252645135
  let v4 := v3 + v3 / 256
  let v5 := v4 + v4 / 65536
  v5 &&& 63
def pcN (m : Nat) : Nat → Nat
  | 0 => 0
  | k + 1 => pcN m k + (m / 2 ^ k) % 2
def bcT (m : Nat) : Bool := Nat.beq (bcN m) (pcN m 16) && Nat.ble ((m / 2) &&& 1431655765) m
theorem bc_0 : ((List.range 32).all fun a => (List.range 64).all fun b => bcT (0 + 64 * a + b)) = true := by decide +kernel
theorem bc_1 : ((List.range 32).all fun a => (List.range 64).all fun b => bcT (2048 + 64 * a + b)) = true := by decide +kernel
theorem bc_2 : ((List.range 32).all fun a => (List.range 64).all fun b => bcT (4096 + 64 * a + b)) = true := by decide +kernel
theorem bc_3 : ((List.range 32).all fun a => (List.range 64).all fun b => bcT (6144 + 64 * a + b)) = true := by decide +kernel
theorem bc_4 : ((List.range 32).all fun a => (List.range 64).all fun b => bcT (8192 + 64 * a + b)) = true := by decide +kernel
theorem bc_5 : ((List.range 32).all fun a => (List.range 64).all fun b => bcT (10240 + 64 * a + b)) = true := by decide +kernel
theorem bc_6 : ((List.range 32).all fun a => (List.range 64).all fun b => bcT (12288 + 64 * a + b)) = true := by decide +kernel
theorem bc_7 : ((List.range 32).all fun a => (List.range 64).all fun b => bcT (14336 + 64 * a + b)) = true := by decide +kernel
theorem bc_8 : ((List.range 32).all fun a => (List.range 64).all fun b => bcT (16384 + 64 * a + b)) = true := by decide +kernel
theorem bc_9 : ((List.range 32).all fun a => (List.range 64).all fun b => bcT (18432 + 64 * a + b)) = true := by decide +kernel
theorem bc_10 : ((List.range 32).all fun a => (List.range 64).all fun b => bcT (20480 + 64 * a + b)) = true := by decide +kernel
theorem bc_11 : ((List.range 32).all fun a => (List.range 64).all fun b => bcT (22528 + 64 * a + b)) = true := by decide +kernel
theorem bc_12 : ((List.range 32).all fun a => (List.range 64).all fun b => bcT (24576 + 64 * a + b)) = true := by decide +kernel
theorem bc_13 : ((List.range 32).all fun a => (List.range 64).all fun b => bcT (26624 + 64 * a + b)) = true := by decide +kernel
theorem bc_14 : ((List.range 32).all fun a => (List.range 64).all fun b => bcT (28672 + 64 * a + b)) = true := by decide +kernel
theorem bc_15 : ((List.range 32).all fun a => (List.range 64).all fun b => bcT (30720 + 64 * a + b)) = true := by decide +kernel
theorem bc_16 : ((List.range 32).all fun a => (List.range 64).all fun b => bcT (32768 + 64 * a + b)) = true := by decide +kernel
theorem bc_17 : ((List.range 32).all fun a => (List.range 64).all fun b => bcT (34816 + 64 * a + b)) = true := by decide +kernel
theorem bc_18 : ((List.range 32).all fun a => (List.range 64).all fun b => bcT (36864 + 64 * a + b)) = true := by decide +kernel
theorem bc_19 : ((List.range 32).all fun a => (List.range 64).all fun b => bcT (38912 + 64 * a + b)) = true := by decide +kernel
theorem bc_20 : ((List.range 32).all fun a => (List.range 64).all fun b => bcT (40960 + 64 * a + b)) = true := by decide +kernel
theorem bc_21 : ((List.range 32).all fun a => (List.range 64).all fun b => bcT (43008 + 64 * a + b)) = true := by decide +kernel
theorem bc_22 : ((List.range 32).all fun a => (List.range 64).all fun b => bcT (45056 + 64 * a + b)) = true := by decide +kernel
theorem bc_23 : ((List.range 32).all fun a => (List.range 64).all fun b => bcT (47104 + 64 * a + b)) = true := by decide +kernel
theorem bc_24 : ((List.range 32).all fun a => (List.range 64).all fun b => bcT (49152 + 64 * a + b)) = true := by decide +kernel
theorem bc_25 : ((List.range 32).all fun a => (List.range 64).all fun b => bcT (51200 + 64 * a + b)) = true := by decide +kernel
theorem bc_26 : ((List.range 32).all fun a => (List.range 64).all fun b => bcT (53248 + 64 * a + b)) = true := by decide +kernel
theorem bc_27 : ((List.range 32).all fun a => (List.range 64).all fun b => bcT (55296 + 64 * a + b)) = true := by decide +kernel
theorem bc_28 : ((List.range 32).all fun a => (List.range 64).all fun b => bcT (57344 + 64 * a + b)) = true := by decide +kernel
theorem bc_29 : ((List.range 32).all fun a => (List.range 64).all fun b => bcT (59392 + 64 * a + b)) = true := by decide +kernel
theorem bc_30 : ((List.range 32).all fun a => (List.range 64).all fun b => bcT (61440 + 64 * a + b)) = true := by decide +kernel
theorem bc_31 : ((List.range 32).all fun a => (List.range 64).all fun b => bcT (63488 + 64 * a + b)) = true := by decide +kernel
theorem bc_of {c : Nat} (h : ((List.range 32).all fun a => (List.range 64).all fun b => bcT (c + 64 * a + b)) = true) {m : Nat} (h1 : c ≤ m) (h2 : m < c + 2048) : bcT m = true := by
  have h3 := List.all_eq_true.mp (List.all_eq_true.mp h ((m - c) / 64) (List.mem_range.mpr (by omega))) ((m - c) % 64) (List.mem_range.mpr (by omega))
  rw [show c + 64 * ((m - c) / 64) + (m - c) % 64 = m by omega] at h3
  exact h3
theorem bc_ok {m : Nat} (h : m < 65536) : bcN m = pcN m 16 ∧ (m / 2 &&& 1431655765) ≤ m := by
  have key : bcT m = true := by
    rcases (show (0 ≤ m ∧ m < 0 + 2048) ∨ (2048 ≤ m ∧ m < 2048 + 2048) ∨ (4096 ≤ m ∧ m < 4096 + 2048) ∨ (6144 ≤ m ∧ m < 6144 + 2048) ∨ (8192 ≤ m ∧ m < 8192 + 2048) ∨ (10240 ≤ m ∧ m < 10240 + 2048) ∨ (12288 ≤ m ∧ m < 12288 + 2048) ∨ (14336 ≤ m ∧ m < 14336 + 2048) ∨ (16384 ≤ m ∧ m < 16384 + 2048) ∨ (18432 ≤ m ∧ m < 18432 + 2048) ∨ (20480 ≤ m ∧ m < 20480 + 2048) ∨ (22528 ≤ m ∧ m < 22528 + 2048) ∨ (24576 ≤ m ∧ m < 24576 + 2048) ∨ (26624 ≤ m ∧ m < 26624 + 2048) ∨ (28672 ≤ m ∧ m < 28672 + 2048) ∨ (30720 ≤ m ∧ m < 30720 + 2048) ∨ (32768 ≤ m ∧ m < 32768 + 2048) ∨ (34816 ≤ m ∧ m < 34816 + 2048) ∨ (36864 ≤ m ∧ m < 36864 + 2048) ∨ (38912 ≤ m ∧ m < 38912 + 2048) ∨ (40960 ≤ m ∧ m < 40960 + 2048) ∨ (43008 ≤ m ∧ m < 43008 + 2048) ∨ (45056 ≤ m ∧ m < 45056 + 2048) ∨ (47104 ≤ m ∧ m < 47104 + 2048) ∨ (49152 ≤ m ∧ m < 49152 + 2048) ∨ (51200 ≤ m ∧ m < 51200 + 2048) ∨ (53248 ≤ m ∧ m < 53248 + 2048) ∨ (55296 ≤ m ∧ m < 55296 + 2048) ∨ (57344 ≤ m ∧ m < 57344 + 2048) ∨ (59392 ≤ m ∧ m < 59392 + 2048) ∨ (61440 ≤ m ∧ m < 61440 + 2048) ∨ (63488 ≤ m ∧ m < 63488 + 2048) by omega) with q | q | q | q | q | q | q | q | q | q | q | q | q | q | q | q | q | q | q | q | q | q | q | q | q | q | q | q | q | q | q | q
    · exact bc_of bc_0 q.1 q.2
    · exact bc_of bc_1 q.1 q.2
    · exact bc_of bc_2 q.1 q.2
    · exact bc_of bc_3 q.1 q.2
    · exact bc_of bc_4 q.1 q.2
    · exact bc_of bc_5 q.1 q.2
    · exact bc_of bc_6 q.1 q.2
    · exact bc_of bc_7 q.1 q.2
    · exact bc_of bc_8 q.1 q.2
    · exact bc_of bc_9 q.1 q.2
    · exact bc_of bc_10 q.1 q.2
    · exact bc_of bc_11 q.1 q.2
    · exact bc_of bc_12 q.1 q.2
    · exact bc_of bc_13 q.1 q.2
    · exact bc_of bc_14 q.1 q.2
    · exact bc_of bc_15 q.1 q.2
    · exact bc_of bc_16 q.1 q.2
    · exact bc_of bc_17 q.1 q.2
    · exact bc_of bc_18 q.1 q.2
    · exact bc_of bc_19 q.1 q.2
    · exact bc_of bc_20 q.1 q.2
    · exact bc_of bc_21 q.1 q.2
    · exact bc_of bc_22 q.1 q.2
    · exact bc_of bc_23 q.1 q.2
    · exact bc_of bc_24 q.1 q.2
    · exact bc_of bc_25 q.1 q.2
    · exact bc_of bc_26 q.1 q.2
    · exact bc_of bc_27 q.1 q.2
    · exact bc_of bc_28 q.1 q.2
    · exact bc_of bc_29 q.1 q.2
    · exact bc_of bc_30 q.1 q.2
    · exact bc_of bc_31 q.1 q.2
  simp only [bcT, Bool.and_eq_true] at key
  exact ⟨Nat.eq_of_beq_eq_true key.1, Nat.le_of_ble_eq_true key.2⟩
theorem pc_mk (L : Nat → Bool) : ∀ k, k ≤ 16 → pcN (mkL L 16) k = cnL L k
  | 0, _ => rfl
  | k + 1, h => by
    unfold pcN cnL
    rw [pc_mk L k (by omega)]
    congr 1
    have h1 := mkL_bit L 16 k
    rw [decide_eq_true (show k < 16 by omega), Bool.true_and] at h1
    rw [Nat.testBit_eq_decide_div_mod_eq] at h1
    cases hL : L k
    · rw [hL] at h1
      have := of_decide_eq_false h1
      simp
      omega
    · rw [hL] at h1
      have := of_decide_eq_true h1
      simp
      omega
theorem sh_k : ((1 : Int32).toUInt32 &&& Int32.toUInt32 31).toBitVec % 32 = 1 ∧ ((2 : Int32).toUInt32 &&& Int32.toUInt32 31).toBitVec % 32 = 2 ∧ ((4 : Int32).toUInt32 &&& Int32.toUInt32 31).toBitVec % 32 = 4 ∧ ((8 : Int32).toUInt32 &&& Int32.toUInt32 31).toBitVec % 32 = 8 ∧ ((16 : Int32).toUInt32 &&& Int32.toUInt32 31).toBitVec % 32 = 16 := by decide +kernel
section C
variable {d : Nat} {e : Nat × Nat} {h : zH} {Q : zQ}
theorem cJ_bitCount {L : Nat → Bool} (K : Q (some (.int (nI (cnL L 16)))) h) : zW (d + 1) m_JInt_bitCount e 0 [.int (nI (mkL L 16))] [] h Q := by
  have hm : mkL L 16 < 65536 := mkL_lt L 16
  obtain ⟨h1, h2⟩ := bc_ok hm
  rw [pc_mk L 16 (by omega)] at h1
  refine b_JInt_bitCount_0 (b_JInt_bitCount_10 ?_)
  generalize mkL L 16 = m at hm h1 h2
  have u : ∀ {n k : Nat} (s : Int32), n < 2 ^ 32 → ((s.toUInt32 &&& Int32.toUInt32 31).toBitVec % 32).toNat = k → ((nI n).toUInt32 >>> (s.toUInt32 &&& Int32.toUInt32 31)).toInt32 = nI (n / 2 ^ k) := fun s hn hs => pk_ushrN hn s _ hs
  rw [u 1 (k := 1) (by omega) (by rw [sh_k.1]; rfl), show (1431655765 : Int32) = nI 1431655765 from rfl, nI_and (by omega) (by decide), pk_sub (show (m / 2 ^ 1) &&& 1431655765 ≤ m from h2)]
  have v1 : m - (m / 2 ^ 1 &&& 1431655765) ≤ m := Nat.sub_le _ _
  generalize hv1 : m - (m / 2 ^ 1 &&& 1431655765) = a at v1 ⊢
  rw [u 2 (k := 2) (by omega) (by rw [sh_k.2.1]; rfl), show (858993459 : Int32) = nI 858993459 from rfl, nI_and (by omega) (by decide), nI_and (by omega) (by decide), nI_add]
  have v2 : (a &&& 858993459) + (a / 2 ^ 2 &&& 858993459) ≤ a + a / 2 ^ 2 := Nat.add_le_add Nat.and_le_left Nat.and_le_left
  generalize hv2 : (a &&& 858993459) + (a / 2 ^ 2 &&& 858993459) = b at v2 ⊢
  rw [u 4 (k := 4) (by omega) (by rw [sh_k.2.2.1]; rfl), nI_add, show (252645135 : Int32) = nI 252645135 from rfl, nI_and (by omega) (by decide)]
  have v3 : (b + b / 2 ^ 4 &&& 252645135) ≤ b + b / 2 ^ 4 := Nat.and_le_left
  generalize hv3 : (b + b / 2 ^ 4 &&& 252645135) = c at v3 ⊢
  rw [u 8 (k := 8) (by omega) (by rw [sh_k.2.2.2.1]; rfl), nI_add, u 16 (k := 16) (by omega) (by rw [sh_k.2.2.2.2]; rfl), nI_add, show (63 : Int32) = nI 63 from rfl, nI_and (by omega) (by decide)]
  have e9 : (c + c / 2 ^ 8 + (c + c / 2 ^ 8) / 2 ^ 16 &&& 63) = bcN m := by
    rw [← hv3, ← hv2, ← hv1]; rfl
  rw [e9, h1]
  exact K
end C
/-- the seed -/
def sdN (x : Int32) : Int32 := x * 1103515245 + 12345
def sdI : Nat → Int32 → Int32
  | 0, s => s
  | k + 1, s => sdN (sdI k s)
def sdV (x : Int32) : Int32 := (x.toUInt32 >>> ((16 : Int32).toUInt32 &&& Int32.toUInt32 31)).toInt32 &&& 32767
theorem sdV_nI (x : Int32) : ∃ j, j < 32768 ∧ sdV x = nI j := pk_andE _ 15 (by decide)
/-- by a shift with the sign, too -/
theorem sdV_s (x : Int32) : (x >>> ((16 : Int32) &&& 31)) &&& 32767 = sdV x := by
  unfold sdV
  refine tb_eq ?_
  rw [Int32.toBitVec_and, Int32.toBitVec_and, BitVec.toNat_and, BitVec.toNat_and]
  refine Nat.eq_of_testBit_eq fun j => ?_
  rw [Nat.testBit_and, Nat.testBit_and]
  have e : (32767 : Int32).toBitVec.toNat = 2 ^ 15 - 1 := by decide
  rw [e, Nat.testBit_two_pow_sub_one]
  by_cases hj : j < 15
  · have h1 : ((x >>> ((16 : Int32) &&& 31)).toBitVec.toNat).testBit j = (x.toBitVec.toNat).testBit (16 + j) := by
      have e2 : (x >>> ((16 : Int32) &&& 31)).toBitVec = x.toBitVec.sshiftRight 16 := by
        rw [Int32.toBitVec_shiftRight]
        rfl
      rw [e2, BitVec.testBit_toNat, BitVec.getLsbD_sshiftRight, BitVec.testBit_toNat]
      simp [show ¬ 32 ≤ j by omega, show 16 + j < 32 by omega]
    have h2 : (((x.toUInt32 >>> ((16 : Int32).toUInt32 &&& Int32.toUInt32 31)).toInt32).toBitVec.toNat).testBit j = (x.toBitVec.toNat).testBit (16 + j) := by
      rw [pk_ushr x 16 16 (by decide), Nat.testBit_div_two_pow, Nat.add_comm]
    rw [h1, h2]
  · simp [hj]
