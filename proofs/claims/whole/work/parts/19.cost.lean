/-! The cost of a good line -/
theorem pt_ok {f den : Int64} (hd : 0 < den.toInt) (hB : bd den 819036168192) (h0 : 0 ≤ f.toInt) (hf : f.toInt ≤ 99 * den.toInt) : 0 ≤ (ptU f den).toInt ∧ (ptU f den).toInt ≤ 25344 := by
  unfold bd at hB
  have c256 : bd (256 : Int64) 256 := by unfold bd; decide
  have c1 : bd (1 : Int64) 1 := by unfold bd; decide
  have hfB : bd f 81084580651008 := by unfold bd; omega
  have hB' : bd den 819036168192 := hB
  obtain ⟨e1, b1⟩ := bd_mul c256 hfB (by decide)
  obtain ⟨e2, b2⟩ := bd_add b1 hB' (by decide)
  obtain ⟨e3, b3⟩ := bd_sub b2 c1 (by decide)
  rw [e2, e1] at e3
  have e4 : (256 : Int64).toInt = 256 := by decide
  have e5 : (1 : Int64).toInt = 1 := by decide
  rw [e4, e5] at e3
  have hd0 : den.toInt ≠ 0 := by omega
  have hn : 0 ≤ 256 * f.toInt + den.toInt - 1 := by omega
  have q0 : 0 ≤ (256 * f.toInt + den.toInt - 1) / den.toInt := Int.ediv_nonneg hn (by omega)
  have q1 : (256 * f.toInt + den.toInt - 1) / den.toInt < 25345 := Int.ediv_lt_of_lt_mul hd (by omega)
  have e6 : (ptU f den).toInt = (256 * f.toInt + den.toInt - 1) / den.toInt := by
    unfold ptU
    rw [Int64.toInt_div, e3, Int.tdiv_eq_ediv_of_nonneg hn]
    exact bm_id (by omega)
  rw [e6]
  omega
theorem i32_nat {x : Int64} {A : Int} (h0 : 0 ≤ x.toInt) (h1 : x.toInt ≤ A) (hA : A < 2 ^ 31) : x.toInt32 = nI x.toInt.toNat := by
  apply Int32.toInt_inj.mp
  rw [Int64.toInt_toInt32, nI_toInt (by omega), Int.bmod_eq_of_le_mul_two (by omega) (by omega)]
  omega
/-- the COST of the line from r to s if it is good, or 0 -/
def csN (S : Nat → Int32) (li le : Int32) (r s : Nat) : Nat := if kdB S li le 2 r s = true then (ptU (ffL S r s (fR S li le r s).2.1 16).2 (lden S r (fR S li le r s).2.1)).toInt.toNat + 1 else 0
def wtN (S : Nat → Int32) (li le : Int32) (r s : Nat) : Nat := if csN S li le r s = 0 then 0 else 8 * csN S li le r s + 1
section M
variable {S : Nat → Int32} {li le : Int32} {r s : Nat}
theorem fR_ok (hS : StK S) (hle : 2 ≤ le) (hr : r < 7) (hs : s < 7) : PtL S r s (fR S li le r s).2.1 ∧ (fR S li le r s).2.2.1 ≤ 16 ∧ (fR S li le r s).1 = lkd S r s (fR S li le r s).2.1 li le ∧ (fR S li le r s).1 ≠ -1 := by
  have h := fit_ok (li := li) hS hr hs hle 17 (bothL S r s) 0 sk0 bothL_pt (by have := cnL_le (bothL S r s) 16; omega) (by have := cnL_le (bothL S r s) 16; omega)
  exact ⟨h.1, h.2.1, h.2.2.1, h.2.2.2.1⟩
theorem good_pt (hS : StK S) (hle : 2 ≤ le) (hli : 0 ≤ li) (hli2 : li ≤ 99) (hr : r < 7) (hs : s < 7) (hk : (fR S li le r s).1 = 2) :
    lden S r (fR S li le r s).2.1 ≠ 0 ∧ 0 ≤ (ptU (ffL S r s (fR S li le r s).2.1 16).2 (lden S r (fR S li le r s).2.1)).toInt ∧ (ptU (ffL S r s (fR S li le r s).2.1 16).2 (lden S r (fR S li le r s).2.1)).toInt ≤ 25344 := by
  obtain ⟨hp, -, hk2, -⟩ := fR_ok (li := li) hS hle hr hs
  rw [hk] at hk2
  generalize (fR S li le r s).2.1 = L at hp hk2
  have hL : ∀ b, b < 16 → L b = true → S (16 * r + b) ≠ -4 := fun b hb h => (hp b hb h).1
  unfold lkd at hk2
  split at hk2
  · exact absurd hk2 (by decide)
  · rename_i c
    have c1 : ¬ nI (cnL L 16) < le := fun q => c (Or.inl q)
    have c2 : lxx S r L ≠ 0 := fun q => c (Or.inr q)
    split at hk2
    · rename_i c3
      have hn : 0 < cnL L 16 := by
        rcases Nat.eq_zero_or_pos (cnL L 16) with q | q
        · rw [q] at c1
          exact absurd (Int32.lt_iff_toInt_lt.mpr (by have := Int32.le_iff_toInt_le.mp hle; have e : (2 : Int32).toInt = 2 := by decide
                                                      have e0 : (nI 0).toInt = 0 := by decide
                                                      omega)) c1
        · exact q
      have hdp := lden_pos hS hr hL hn c2
      have hdB := (lden_ok hS hr hL).1
      have hf0 : 0 ≤ (ffL S r s L 16).2.toInt := by
        rcases ff_ok hS hr hs hp 16 (Nat.le_refl _) with q | ⟨f, q1, q2, q3⟩
        · omega
        · rw [q3]; exact (lfar_ok hS hr hs hp q1 (hp f q1 q2).1 (hp f q1 q2).2).2
      have hf : (ffL S r s L 16).2.toInt ≤ 99 * (lden S r L).toInt := by
        have a1 := Int64.le_iff_toInt_le.mp c3
        have l0 := Int32.le_iff_toInt_le.mp hli
        have l1 := Int32.le_iff_toInt_le.mp hli2
        have e0 : (0 : Int32).toInt = 0 := by decide
        have e99 : (99 : Int32).toInt = 99 := by decide
        have lb : bd li.toInt64 99 := by unfold bd; rw [Int32.toInt_toInt64]; omega
        rw [(bd_mul lb hdB (by decide)).1, Int32.toInt_toInt64] at a1
        have : li.toInt * (lden S r L).toInt ≤ 99 * (lden S r L).toInt := Int.mul_le_mul_of_nonneg_right (by omega) (by omega)
        omega
      exact ⟨fun q => by rw [q] at hdp; exact absurd hdp (by decide), pt_ok hdp hdB hf0 hf⟩
    · split at hk2
      · exact absurd hk2 (by decide)
      · exact absurd hk2 (by decide)
theorem cs_bd (hS : StK S) (hle : 2 ≤ le) (hli : 0 ≤ li) (hli2 : li ≤ 99) (hr : r < 7) (hs : s < 7) : csN S li le r s ≤ 25345 := by
  unfold csN
  split
  · rename_i c
    unfold kdB at c
    simp only [Bool.and_eq_true, decide_eq_true_eq] at c
    have := good_pt hS hle hli hli2 hr hs c.2
    omega
  · exact Nat.zero_le _
theorem cs_eq (hS : StK S) (hle : 2 ≤ le) (hli : 0 ≤ li) (hli2 : li ≤ 99) (hr : r < 7) (hs : s < 7) (hk : kdB S li le 2 r s = true) : (ptU (ffL S r s (fR S li le r s).2.1 16).2 (lden S r (fR S li le r s).2.1)).toInt32 + 1 = nI (csN S li le r s) ∧ lden S r (fR S li le r s).2.1 ≠ 0 ∧ 0 < csN S li le r s := by
  have c := hk
  unfold kdB at c
  simp only [Bool.and_eq_true, decide_eq_true_eq] at c
  have h := good_pt hS hle hli hli2 hr hs c.2
  unfold csN
  rw [if_pos hk, i32_nat h.2.1 h.2.2 (by decide), nI_1]
  exact ⟨rfl, h.1, Nat.succ_pos _⟩
end M
