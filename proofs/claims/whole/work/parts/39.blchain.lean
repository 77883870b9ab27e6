/-! BeaconLines: a clock of THE CHAIN -/
section C
variable {d : Nat} {e : Nat × Nat} {h : zH} {Q : zQ} {F : Nat → Value} {l q : Int32} {S : Nat → Int32} {N a r k : Nat}
theorem cX_chain68 (hF : h.2 8 = zO 9 F) (hR : blR F) (hc : cwA h (wtW S l q N) N a (wD S l q N a)) (hS : StK S) (hq : 2 ≤ q) (hl : 0 ≤ l) (hl2 : l ≤ 99) (hN : N ≤ 7) (hr : r < N) (ha : a < N) (hD : wD S l q N a r < bI) (hk : k ≤ hpN S l q N a r)
    (K : Q (some (.int (nI (wkC S l q N a r k)))) h) : zW (d + 3) m_BL_chain e 68 [.ref 8, zD, zD, .int (nI k), .int (nI r), .int (nI 0)] [] h Q := by
  have hwt := wt_ok (S := S) (li := l) (le := q) hS hq hl hl2 hN
  have h6 : hpN S l q N a r ≤ 6 := hp_6 hN (hp_bf hwt hN ha 6) hr hD
  have loop : ∀ j i, i + j = k → zW (d + 3) m_BL_chain e 68 [.ref 8, zD, zD, .int (nI k), .int (nI (wkC S l q N a r i)), .int (nI i)] [] h Q := by
    intro j
    induction j with
    | zero =>
      intro i hj
      have : i = k := by omega
      subst this
      exact b_BL_chain_68 (ifT (Int32.le_refl _) K)
    | succ j ih =>
      intro i hj
      obtain ⟨w1, w2, w3, w4, w5, w6⟩ := wk_step hS hq hl hl2 hN hr ha hD (i := i) (by omega)
      obtain ⟨x1, x2, x3⟩ := nx_ok hwt hN ha w1 w5 w6
      refine b_BL_chain_68 (ifF (nI_ge (by omega) (by omega)) ⟨F, hF, _, hR.2.2.2.2.1, hc.1.imp fun _ w => w.1, cC_nextToAim hc (hp_bf hwt hN ha 6) hwt hN w1 w6 ⟨_, x1, x2⟩ (fun t t1 t2 t3 => ⟨_, rfl, ?_⟩)⟩)
      have et : wkC S l q N a r (i + 1) = t := nx_eq t1 t2 t3
      subst et
      rw [nI_1]
      exact ih (i + 1) (by omega)
  exact loop k 0 (Nat.zero_add _)
end C
