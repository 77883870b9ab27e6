/-! The Model: stamps are counted; what was struck -/
section C
variable {d : Nat} {e : Nat × Nat} {h : zH} {Q : zQ} {G : Nat → Value} {n l q x : Int32} {S : Nat → Int32} {N r s : Nat}
theorem cM_stampsOf (hG : h.2 139 = zO 10 G) (hR : mR G) (hm : msA h n l q S) (hr : r < 7) (K : Q (some (.int (nI (cnH S r 16)))) h) : zW (d + 2) m_Mo_stampsOf e 0 [.ref 139, .int (nI r), zD, zD] [] h Q := by
  obtain ⟨st, hst, st0, st1, st2, st3⟩ := hm
  refine b_Mo_stampsOf_0 ?_
  have loop : ∀ k b, b + k = 16 → zW (d + 2) m_Mo_stampsOf e 4 [.ref 139, .int (nI r), .int (nI (cnH S r b)), .int (nI b)] [] h Q := by
    intro k
    induction k with
    | zero =>
      intro b hk
      have : b = 16 := by omega
      subst this
      exact b_Mo_stampsOf_4 (ifT (show nI 16 ≤ nI 16 from Int32.le_refl _) K)
    | succ k ih =>
      intro b hk
      have next := ih (b + 1) (by omega)
      refine b_Mo_stampsOf_4 (ifF (show ¬ nI 16 ≤ nI b from nI_ge (by omega) (by decide)) ⟨G, hG, _, hR.1, cM_at ⟨_, rfl, 115, st, hst, zIn_nI (by omega) (by decide), ?_⟩⟩)
      rw [nI_clamp (by omega), st3 _ (by omega), nI_1]
      refine ifB (fun c => cM_flag (b := false) ⟨_, rfl, ?_⟩) (fun c => cM_flag (b := true) ⟨_, rfl, ?_⟩)
      · rw [show cnH S r (b + 1) = cnH S r b by show cnH S r b + _ = _; rw [if_pos c]; rfl] at next
        rw [show nI (cnH S r b) + b01 false = nI (cnH S r b) from Int32.add_zero _]
        exact next
      · rw [show cnH S r (b + 1) = cnH S r b + 1 by show cnH S r b + _ = _; rw [if_neg c]] at next
        rw [show nI (cnH S r b) + b01 true = nI (cnH S r b + 1) from nI_1 _]
        exact next
  exact loop 16 0 rfl
theorem cM_stamps (hG : h.2 139 = zO 10 G) (hR : mR G) (hm : msA h (nI N) l q S) (hN : N ≤ 7) (K : Q (some (.int (nI (cnA S N)))) h) : zW (d + 3) m_Mo_stamps e 0 [.ref 139, zD, zD] [] h Q := by
  obtain ⟨st, hst, st0, -⟩ := id hm
  refine b_Mo_stamps_0 ?_
  have loop : ∀ k r, r + k = N → zW (d + 3) m_Mo_stamps e 4 [.ref 139, .int (nI (cnA S r)), .int (nI r)] [] h Q := by
    intro k
    induction k with
    | zero =>
      intro r hk
      have : r = N := by omega
      subst this
      refine b_Mo_stamps_4 ⟨G, hG, _, hR.1, 115, st, hst, zi0, ?_⟩
      rw [show (0 : Int32).toNatClampNeg = 0 from rfl, st0]
      exact ifT (Int32.le_refl _) K
    | succ k ih =>
      intro r hk
      refine b_Mo_stamps_4 ⟨G, hG, _, hR.1, 115, st, hst, zi0, ?_⟩
      rw [show (0 : Int32).toNatClampNeg = 0 from rfl, st0]
      refine ifF (nI_ge (by omega) (by omega)) ⟨⟨G, hG⟩, cM_stampsOf hG hR hm (by omega) ⟨_, rfl, ?_⟩⟩
      rw [nI_add, nI_1]
      exact ih (r + 1) (by omega)
  exact loop N 0 (by omega)
theorem cM_unheard (hG : h.2 139 = zO 10 G) (hR : mR G) (hm : msA h (nI N) l q S) (hN : N ≤ 7) (K : Q (some (.int (nI (cnU S N 16)))) h) : zW (d + 2) m_Mo_unheard e 0 [.ref 139, zD, zD, zD, zD] [] h Q := by
  obtain ⟨st, hst, st0, st1, st2, st3⟩ := id hm
  refine b_Mo_unheard_0 ?_
  have inner : ∀ b, b < 16 → zW (d + 2) m_Mo_unheard e 4 [.ref 139, .int (nI (cnU S N (b + 1))), .int (nI (b + 1)), zD, zD] [] h Q → ∀ k r, r + k = N → zW (d + 2) m_Mo_unheard e 15 [.ref 139, .int (nI (cnU S N b)), .int (nI b), .int (b01 (hdB S b r)), .int (nI r)] [] h Q := by
    intro b hb next k
    induction k with
    | zero =>
      intro r hk
      have : r = N := by omega
      subst this
      refine b_Mo_unheard_15 ⟨G, hG, _, hR.1, 115, st, hst, zi0, ?_⟩
      rw [show (0 : Int32).toNatClampNeg = 0 from rfl, st0, nI_1]
      refine ifT (Int32.le_refl _) ?_
      cases c : hdB S b r with
      | true =>
        rw [show cnU S r (b + 1) = cnU S r b by show cnU S r b + _ = _; rw [c]; rfl] at next
        refine ifF (by decide) (cM_flag (b := false) ⟨_, rfl, ?_⟩)
        rw [show nI (cnU S r b) + b01 false = nI (cnU S r b) from Int32.add_zero _]
        exact next
      | false =>
        rw [show cnU S r (b + 1) = cnU S r b + 1 by show cnU S r b + _ = _; rw [c]; rfl] at next
        refine ifT rfl (cM_flag (b := true) ⟨_, rfl, ?_⟩)
        rw [show nI (cnU S r b) + b01 true = nI (cnU S r b + 1) from nI_1 _]
        exact next
    | succ k ih =>
      intro r hk
      have nx := ih (r + 1) (by omega)
      refine b_Mo_unheard_15 ⟨G, hG, _, hR.1, 115, st, hst, zi0, ?_⟩
      rw [show (0 : Int32).toNatClampNeg = 0 from rfl, st0]
      refine ifF (nI_ge (by omega) (by omega)) ?_
      have hs : hdB S b (r + 1) = (hdB S b r || decide (S (16 * r + b) ≠ -4)) := rfl
      rw [hs] at nx
      cases c : hdB S b r with
      | true =>
        rw [c, Bool.true_or] at nx
        refine ifF (by decide) ?_
        rw [nI_1 r]
        exact nx
      | false =>
        rw [c, Bool.false_or] at nx
        refine ifT rfl ⟨G, hG, _, hR.1, cM_at ⟨_, rfl, 115, st, hst, zIn_nI (by omega) (by decide), ?_⟩⟩
        rw [nI_clamp (by omega), st3 _ (by omega), nI_1 r]
        refine ifB (fun c2 => ?_) (fun c2 => ?_)
        · rw [decide_eq_false (fun w => w c2)] at nx
          exact nx
        · rw [decide_eq_true c2] at nx
          exact nx
  have outer : ∀ k b, b + k = 16 → zW (d + 2) m_Mo_unheard e 4 [.ref 139, .int (nI (cnU S N b)), .int (nI b), zD, zD] [] h Q := by
    intro k
    induction k with
    | zero =>
      intro b hk
      have : b = 16 := by omega
      subst this
      exact b_Mo_unheard_4 (ifT (show nI 16 ≤ nI 16 from Int32.le_refl _) K)
    | succ k ih =>
      intro b hk
      exact b_Mo_unheard_4 (ifF (show ¬ nI 16 ≤ nI b from nI_ge (by omega) (by decide)) (inner b (by omega) (ih (b + 1) (by omega)) N 0 (by omega)))
  exact outer 16 0 rfl
/-- the k-th that was struck, or none -/
theorem cM_struck24 {k : Nat} (hG : h.2 139 = zO 10 G) (hR : mR G) (hl : lnM h G S l q r s) (hk : k < 2 ^ 30) (hc : (fR S l q r s).2.2.1 ≤ 16)
    (K : Q (some (.int (if k < (fR S l q r s).2.2.1 then (fR S l q r s).2.2.2 k else -4))) h) : zW (d + 1) m_Mo_struck e 24 [.ref 139, zD, zD, .int (nI k), .int (nI 0)] [] h Q := by
  obtain ⟨-, -, -, l24, -, o, ho, -, hI2, hI3⟩ := hl
  have loop : ∀ m b, b + m = 16 → (∀ b', b' < b → k < (fR S l q r s).2.2.1 → o b' ≠ nI (k + 1)) → zW (d + 1) m_Mo_struck e 24 [.ref 139, zD, zD, .int (nI k), .int (nI b)] [] h Q := by
    intro m
    induction m with
    | zero =>
      intro b hb hno
      have : b = 16 := by omega
      subst this
      refine b_Mo_struck_24 (ifT (show nI 16 ≤ nI 16 from Int32.le_refl _) ?_)
      by_cases c : k < (fR S l q r s).2.2.1
      · obtain ⟨b', b1, b2, b3⟩ := hI2 k c
        exact absurd b3 (hno b' b1 c)
      · rw [if_neg c] at K
        exact K
    | succ m ih =>
      intro b hb hno
      refine b_Mo_struck_24 (ifF (show ¬ nI 16 ≤ nI b from nI_ge (by omega) (by decide)) ⟨G, hG, _, l24, ?_⟩)
      rw [nI_1 b]
      refine ifB (fun c => ih (b + 1) (by omega) (fun b' _ hk' => ?_)) (fun c => ⟨G, hG, _, hR.2.2.2.2.2.2.1, 16, o, ho, zIn_nI (by omega) (by decide), ?_⟩)
      · have := (nI_leI (by omega) (by omega)).mp c
        omega
      · have c' := mt (nI_leI (a := (fR S l q r s).2.2.1) (b := k) (by omega) (by omega)).mpr c
        rw [nI_clamp (by omega), nI_1 k]
        refine ifB (fun c2 => ?_) (fun c2 => ih (b + 1) (by omega) (fun b' hb' hk' => ?_))
        · rcases hI3 b (by omega) with w | ⟨j, j1, j2, j3⟩
          · rw [w] at c2
            exact absurd c2.symm (nI_ne0 (by omega) (by omega))
          · rw [c2] at j3
            have ej := (nI_eq (by omega) (by omega)).mp j3
            have : j = k := by omega
            subst this
            rw [if_pos j1, j2] at K
            exact K
        · by_cases eb : b' = b
          · rw [eb]; exact c2
          · exact hno b' (by omega) hk'
  exact loop 16 0 rfl (fun b' hb' => absurd hb' (Nat.not_lt_zero b'))
end C
