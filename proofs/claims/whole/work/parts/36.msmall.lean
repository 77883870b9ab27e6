/-! The Model: small questions -/
section C
variable {d : Nat} {e : Nat × Nat} {h : zH} {Q : zQ} {G : Nat → Value} {l q x : Int32} {S : Nat → Int32} {N r s : Nat}
theorem cM_in {v lo hi : Int64} (K : Q (some (.int (b01 (decide (lo.toInt ≤ v.toInt ∧ v.toInt ≤ hi.toInt))))) h) : zW (d + 1) m_Mo_in e 0 [.long v, zD, .long lo, zD, .long hi, zD] [] h Q := by
  refine b_Mo_in_0 (ifB (fun c => ⟨by decide, ?_⟩) (fun c => ifB (fun c2 => ⟨by decide, ?_⟩) (fun c2 => ⟨by decide, ?_⟩)))
  · have := Int64.lt_iff_toInt_lt.mp (lc_lt.mp c)
    rw [decide_eq_false (by omega)] at K
    exact K
  · have := Int64.lt_iff_toInt_lt.mp (lc_gt.mp c2)
    rw [decide_eq_false (by omega)] at K
    exact K
  · have a1 := mt lc_lt.mpr c
    have a2 := mt lc_gt.mpr c2
    rw [Int64.lt_iff_toInt_lt] at a1 a2
    rw [decide_eq_true (by omega)] at K
    exact K
theorem cM_isBeacon (K : Q (some (.int (b01 (decide (0 ≤ x.toInt ∧ x.toInt < 16))))) h) : zW (d + 2) m_Mo_isBeacon e 0 [.int x] [] h Q := by
  refine b_Mo_isBeacon_0 (cM_in ⟨_, rfl, b01_01 _, ?_⟩)
  rw [Int32.toInt_toInt64, show (0 : Int64).toInt = 0 from rfl, show (15 : Int64).toInt = 15 from rfl]
  rw [show (decide (0 ≤ x.toInt ∧ x.toInt ≤ 15)) = decide (0 ≤ x.toInt ∧ x.toInt < 16) from decide_eq_decide.mpr (by omega)]
  exact K
theorem cM_isClock (hG : h.2 139 = zO 10 G) (hR : mR G) (hm : msA h (nI N) l q S) (hN : N ≤ 7) (K : Q (some (.int (b01 (decide (0 ≤ x.toInt ∧ x.toInt < N))))) h) : zW (d + 2) m_Mo_isClock e 0 [.ref 139, .int x] [] h Q := by
  obtain ⟨st, hst, st0, -⟩ := hm
  have e1 : (nI N - 1).toInt = (N : Int) - 1 := by
    rw [Int32.toInt_sub, nI_toInt (by omega), show (1 : Int32).toInt = 1 from rfl]
    exact Int.bmod_eq_of_le_mul_two (by omega) (by omega)
  refine b_Mo_isClock_0 ⟨G, hG, _, hR.1, 115, st, hst, zi0, cM_in ⟨_, rfl, b01_01 _, ?_⟩⟩
  rw [show (0 : Int32).toNatClampNeg = 0 from rfl, st0, Int32.toInt_toInt64, Int32.toInt_toInt64, e1, show (0 : Int64).toInt = 0 from rfl]
  rw [show (decide (0 ≤ x.toInt ∧ x.toInt ≤ (N : Int) - 1)) = decide (0 ≤ x.toInt ∧ x.toInt < N) from decide_eq_decide.mpr (by omega)]
  exact K
end C
