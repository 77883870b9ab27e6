/-! Chains: the lines are taken; pairs are counted -/
def chO (h : zH) : Prop := (∃ F, h.2 117 = zO 1 F ∧ F 2 = .ref 118 ∧ F 3 = .ref 119) ∧ (∃ f, h.2 118 = zI 0 49 f) ∧ ∃ g, h.2 119 = zI 0 7 g
theorem cwA.ch {h : zH} {w : Nat → Nat → Nat} {N a : Nat} {D : Nat → Nat} (c : cwA h w N a D) : chO h := by
  obtain ⟨⟨F, h1, h2, -, h3⟩, ⟨f, hf, -⟩, g, hg, -⟩ := c
  exact ⟨⟨F, h1, h3⟩, ⟨f, hf⟩, g, hg⟩
theorem chO.fr {A : Nat → Prop} {h h' : zH} (c : chO h) (f : zFr A h h') (hA : ∀ z, A z → ¬ (117 ≤ z ∧ z < 120)) : chO h' := by
  obtain ⟨⟨F, h1, h3⟩, ⟨f1, hf⟩, g, hg⟩ := c
  exact ⟨⟨F, by rw [f _ (fun z => hA _ z (by omega))]; exact h1, h3⟩, ⟨f1, by rw [f _ (fun z => hA _ z (by omega))]; exact hf⟩, g, by rw [f _ (fun z => hA _ z (by omega))]; exact hg⟩
theorem clA.fr {A : Nat → Prop} {h h' : zH} {w : Nat → Nat → Nat} {N : Nat} (c : clA h w N) (f : zFr A h h') (hA : ∀ z, A z → ¬ (117 ≤ z ∧ z < 119)) : clA h' w N := by
  obtain ⟨⟨F, h1, h3⟩, f1, hf, hf2⟩ := c
  exact ⟨⟨F, by rw [f _ (fun z => hA _ z (by omega))]; exact h1, h3⟩, f1, by rw [f _ (fun z => hA _ z (by omega))]; exact hf, hf2⟩
section C
variable {d : Nat} {e : Nat × Nat} {h : zH} {Q : zQ} {w : Nat → Nat → Nat} {l q : Int32} {S : Nat → Int32} {nw N a : Nat} {D : Nat → Nat} {r s : Nat}
theorem cC_weightOf {p : Nat} {F : Nat → Value} {K0 : Nat → Int32} (hF : h.2 p = zO 3 F) (hR : lnR F K0 S l q r s) (hS : StK S) (hq : 2 ≤ q) (hl : 0 ≤ l) (hl2 : l ≤ 99) (hr : r < 7) (hs : s < 7) (hrs : r ≠ s) (K : Q (some (.int (enW (wtN S l q r s)))) h) : zW (d + 3) m_Chains_weightOf e 0 [.ref p] [] h Q := by
  obtain ⟨a1, ⟨-, -, -, -, -, a7⟩, -, b4, -⟩ := hR
  refine b_Chains_weightOf_0 ⟨F, hF, _, a1, ifB (fun c => ⟨⟨F, hF⟩, ?_⟩) (fun c => ?_)⟩
  · have hk : kdB S l q 2 r s = true := by unfold kdB; simp [hrs, c]
    obtain ⟨e1, e2, e3⟩ := cs_eq hS hq hl hl2 hr hs hk
    have hcb := cs_bd (S := S) hS hq hl hl2 hr hs
    refine cL_costOfGood hF a7 b4 e2 ⟨_, rfl, ?_⟩
    rw [e1, pk_shlN _ 3 s3 (by omega), nI_1]
    rw [show wtN S l q r s = 8 * csN S l q r s + 1 from if_neg (by omega), show enW (8 * csN S l q r s + 1) = nI (8 * csN S l q r s + 1) from if_neg (by omega), Nat.mul_comm] at K
    exact K
  · have hk : ¬ kdB S l q 2 r s = true := by unfold kdB; simp [c]
    have : csN S l q r s = 0 := if_neg hk
    unfold wtN enW at K
    rw [if_pos this] at K
    exact K
theorem cC_renew (hb : bkA h 15 (nI N) l q S) (hw : wbA h S l q nw) (hc : chO h) (hS : StK S) (hq : 2 ≤ q) (hl : 0 ≤ l) (hl2 : l ≤ 99) (hnw : nw < 2 ^ 30) (hN : N ≤ 7)
    (K : ∀ h', wbA h' S l q nw → clA h' (wtW S l q N) N → chO h' → zFr (fun z => 19 ≤ z ∧ z < 119) h h' → Q none h') : zW (d + 5) m_Chains_renew e 0 [.ref 117, .ref 14, zD, zD, zD] [] h Q := by
  obtain ⟨⟨W, hW, w0, -⟩, -⟩ := hw.1
  obtain ⟨⟨B, hB, b0, -⟩, -⟩ := id hb
  obtain ⟨⟨F, hF, f2, f3⟩, ⟨f, hf⟩, g, hg⟩ := hc
  refine b_Chains_renew_0 ⟨W, hW, _, w0, B, hB, _, b0, F, hF, ?_⟩
  rintro h6 rfl
  -- what holds in the loops
  let I : zH → Nat → Nat → Prop := fun h1 r s => (∃ F, h1.2 117 = zO 1 F ∧ F 0 = .int (nI N) ∧ F 2 = .ref 118 ∧ F 3 = .ref 119) ∧ (∃ f, h1.2 118 = zI 0 49 f ∧ ∀ r' s', r' < N → s' < N → (r' < r ∨ (r' = r ∧ s' < s)) → f (7 * r' + s') = enW (wtN S l q r' s')) ∧ wbA h1 S l q nw ∧ zFr (fun z => 19 ≤ z ∧ z < 119) h h1
  have put : ∀ h1 r s f, I h1 r s → r < N → s < N → h1.2 118 = zI 0 49 f → I (zP h1 118 (zI 0 49 (zU f (7 * r + s) (enW (wtN S l q r s))))) r (s + 1) := by
    intro h1 r s f1 hI hr hs hf1
    obtain ⟨⟨F, hF, q1⟩, ⟨f', hf', hf2⟩, hw1, hfr⟩ := hI
    have : f' = f1 := by rw [hf1] at hf'; exact (zI_inj hf').symm
    subst this
    have h118 : zFr (fun z => z = 118) h1 (zP h1 118 (zI 0 49 (zU f' (7 * r + s) (enW (wtN S l q r s))))) := zFr.put rfl
    refine ⟨⟨F, (zP_ne _ _ (by decide)).trans hF, q1⟩, ⟨_, zP_same _ _ _, fun r' s' hr' hs' hor => ?_⟩, hw1.fr h118 (fun z hz => by omega), hfr.trans (h118.sub (fun z hz => by omega))⟩
    by_cases ez : 7 * r' + s' = 7 * r + s
    · have : r' = r ∧ s' = s := by omega
      rw [ez, zU_same, this.1, this.2]
    · rw [zU_ne _ _ ez]
      exact hf2 r' s' hr' hs' (by omega)
  have inner : ∀ r, r < N → (∀ h2, I h2 (r + 1) 0 → zW (d + 5) m_Chains_renew e 13 [.ref 117, .ref 14, .int (nI (r + 1)), zD, zD] [] h2 Q) → ∀ j s h1, s + j = N → I h1 r s → zW (d + 5) m_Chains_renew e 23 [.ref 117, .ref 14, .int (nI r), .int (nI s), zD] [] h1 Q := by
    intro r hr Kn j
    induction j with
    | zero =>
      intro s h1 hj hI
      have : s = N := by omega
      subst this
      obtain ⟨F, hF, f0, -⟩ := hI.1
      refine b_Chains_renew_23 ⟨F, hF, _, f0, ifT (Int32.le_refl _) ?_⟩
      rw [nI_1]
      refine Kn h1 ⟨hI.1, ?_, hI.2.2⟩
      obtain ⟨f', hf', hf2⟩ := hI.2.1
      exact ⟨f', hf', fun r' s' hr' hs' hor => hf2 r' s' hr' hs' (by omega)⟩
    | succ j ih =>
      intro s h1 hj hI
      have hs : s < N := by omega
      obtain ⟨F, hF, f0, f2, f3⟩ := hI.1
      obtain ⟨f', hf', -⟩ := hI.2.1
      refine b_Chains_renew_23 ⟨F, hF, _, f0, ifF (nI_ge hs (by omega)) (ifB (fun c => ?_) (fun c => ?_))⟩
      · have ers := (nI_eq (by omega) (by omega)).mp c
        refine b_Chains_renew_41 ⟨F, hF, _, f2, ifT rfl ⟨49, f', hf', ?_⟩⟩
        rw [ix7, nI_1, nI_clamp (by omega)]
        refine ⟨zIn_nI (by omega) (by decide), ?_⟩
        rintro h5 rfl
        have := put h1 r s f' hI hr hs hf'
        rw [show enW (wtN S l q r s) = -4 by unfold wtN csN kdB enW; simp [ers]] at this
        exact ih (s + 1) _ (by omega) this
      · have hrs : r ≠ s := fun q => c (by rw [q])
        have hb1 := hb.fr hI.2.2.2 (by omega) (by omega)
        refine b_Chains_renew_41 ⟨F, hF, _, f2, ifF (by decide) ⟨hI.2.2.1.1.1.imp fun _ w => w.1, cW_lineOf hb1 hI.2.2.1 hS hq hnw (by omega) (by omega) (fun h2 F2 K0 hw2 hf2 hF2 hK2 f11 hR => ⟨_, rfl, cC_weightOf hF2 hR hS hq hl hl2 (by omega) (by omega) hrs ⟨_, rfl, 49, f', by rw [hf2 _ (by omega)]; exact hf', ?_⟩⟩)⟩⟩
        rw [ix7, nI_1, nI_clamp (by omega)]
        refine ⟨zIn_nI (by omega) (by decide), ?_⟩
        rintro h5 rfl
        have hI2 : I h2 r s := by
          obtain ⟨⟨G, hG, g1⟩, ⟨k, hk, hk2⟩, hw1, hfr⟩ := hI
          exact ⟨⟨G, by rw [hf2 _ (by omega)]; exact hG, g1⟩, ⟨k, by rw [hf2 _ (by omega)]; exact hk, hk2⟩, hw2, hfr.trans (hf2.sub (fun z hz => by omega))⟩
        exact ih (s + 1) _ (by omega) (put h2 r s f' hI2 hr hs (by rw [hf2 _ (by omega)]; exact hf'))
  have outer : ∀ j r h1, r + j = N → I h1 r 0 → zW (d + 5) m_Chains_renew e 13 [.ref 117, .ref 14, .int (nI r), zD, zD] [] h1 Q := by
    intro j
    induction j with
    | zero =>
      intro r h1 hj hI
      have : r = N := by omega
      subst this
      obtain ⟨⟨F, hF, f0, f2, f3⟩, ⟨f', hf', hf2⟩, hw1, hfr⟩ := hI
      refine b_Chains_renew_13 ⟨F, hF, _, f0, ifT (Int32.le_refl _) (K h1 hw1 ⟨⟨F, hF, f0, f2, f3⟩, f', hf', fun r' s' hr' hs' => ?_⟩ ⟨⟨F, hF, f2, f3⟩, ⟨f', hf'⟩, g, by rw [hfr _ (by omega)]; exact hg⟩ hfr)⟩
      rw [hf2 r' s' hr' hs' (Or.inl hr')]
      unfold wtW
      rw [if_pos ⟨hr', hs'⟩]
    | succ j ih =>
      intro r h1 hj hI
      obtain ⟨F, hF, f0, -⟩ := hI.1
      exact b_Chains_renew_13 ⟨F, hF, _, f0, ifF (nI_ge (by omega) (by omega)) (inner r (by omega) (fun h2 hI2 => ih (r + 1) h2 (by omega) hI2) N 0 h1 (by omega) hI)⟩
  have h117 : zFr (fun z => z = 117) h (zP h 117 (zO 1 (zU F 0 (.int (nI N))))) := zFr.put rfl
  refine outer N 0 _ (by omega) ⟨⟨_, zP_same _ _ _, rfl, f2, f3⟩, ⟨f, (zP_ne _ _ (by decide)).trans hf, fun r' s' _ _ hor => by omega⟩, hw.fr h117 (fun z hz => by omega), h117.sub (fun z hz => by omega)⟩
/-- r reaches s -/
def rcB (w : Nat → Nat → Nat) (N r s : Nat) : Bool := decide (bfD w N s 6 r < bI)
theorem cC_reaches (hc : clA h w N) (hc2 : chO h) (hw : wOK w) (hN : N ≤ 7) (hr : r < N) (hs : s < N) (K : ∀ h', cwA h' w N s (bfD w N s 6) → zFr (fun z => z = 117 ∨ z = 119) h h' → Q (some (.int (b01 (rcB w N r s)))) h') : zW (d + 4) m_Chains_reaches e 0 [.ref 117, .int (nI r), .int (nI s)] [] h Q := by
  obtain ⟨g, hg⟩ := hc2.2.2
  refine b_Chains_reaches_0 ⟨hc.1.imp fun _ w => w.1, cC_aimAt hc hg hw hN hs (fun h' hc' hf' => ⟨rfl, hc'.1.imp fun _ w => w.1, cC_reachesAim hc' (hp_bf hw hN hs 6) hN hr ⟨_, rfl, ?_, K h' hc' hf'⟩⟩)⟩
  unfold b01
  split
  · exact Or.inr rfl
  · exact Or.inl rfl
theorem cC_reachedFrom (hc : clA h w N) (hc2 : chO h) (hw : wOK w) (hN : N ≤ 7) (hr : r < N) (K : ∀ h', clA h' w N → chO h' → zFr (fun z => z = 117 ∨ z = 119) h h' → Q (some (.int (nI (cnL (rcB w N r) N)))) h') : zW (d + 5) m_Chains_reachedFrom e 0 [.ref 117, .int (nI r), zD, zD] [] h Q := by
  refine b_Chains_reachedFrom_0 ?_
  have key : ∀ j s h1, s + j = N → clA h1 w N → chO h1 → zFr (fun z => z = 117 ∨ z = 119) h h1 → zW (d + 5) m_Chains_reachedFrom e 4 [.ref 117, .int (nI r), .int (nI (cnL (rcB w N r) s)), .int (nI s)] [] h1 Q := by
    intro j
    induction j with
    | zero =>
      intro s h1 hj a1 a2 a3
      have : s = N := by omega
      subst this
      obtain ⟨F, hF, f0, -⟩ := a1.1
      exact b_Chains_reachedFrom_4 ⟨F, hF, _, f0, ifT (Int32.le_refl _) (K h1 a1 a2 a3)⟩
    | succ j ih =>
      intro s h1 hj a1 a2 a3
      obtain ⟨F, hF, f0, -⟩ := a1.1
      refine b_Chains_reachedFrom_4 ⟨F, hF, _, f0, ifF (nI_ge (by omega) (by omega)) ⟨⟨F, hF⟩, cC_reaches a1 a2 hw hN hr (by omega) (fun h2 b1 b2 => ⟨_, rfl, ?_⟩)⟩⟩
      have := ih (s + 1) h2 (by omega) b1.cl b1.ch (a3.trans b2)
      rw [nI_1]
      cases c : rcB w N r s with
      | true =>
        rw [cnL_s1 c] at this
        rw [nI_1]
        exact ifF (by decide) this
      | false =>
        rw [cnL_s0 c] at this
        exact ifT (by decide) this
  exact key N 0 h (by omega) hc hc2 zFr.rf
/-- r is another than s, and reaches it -/
def rpB (w : Nat → Nat → Nat) (N s r : Nat) : Bool := decide (r ≠ s) && rcB w N r s
theorem cC_reachingPairs (hc : clA h w N) (hc2 : chO h) (hw : wOK w) (hN : N ≤ 7) (K : ∀ h', clA h' w N → chO h' → zFr (fun z => z = 117 ∨ z = 119) h h' → Q (some (.int (nI (cnP (rpB w N) N N)))) h') : zW (d + 5) m_Chains_reachingPairs e 0 [.ref 117, zD, zD, zD] [] h Q := by
  refine b_Chains_reachingPairs_0 ?_
  have inner : ∀ s, s < N → (∀ h2, clA h2 w N → chO h2 → zFr (fun z => z = 117 ∨ z = 119) h h2 → zW (d + 5) m_Chains_reachingPairs e 4 [.ref 117, .int (nI (cnP (rpB w N) N (s + 1))), .int (nI (s + 1)), zD] [] h2 Q) → ∀ j r h1, r + j = N → cwA h1 w N s (bfD w N s 6) → zFr (fun z => z = 117 ∨ z = 119) h h1 → zW (d + 5) m_Chains_reachingPairs e 19 [.ref 117, .int (nI (cnP (rpB w N) N s + cnL (rpB w N s) r)), .int (nI s), .int (nI r)] [] h1 Q := by
    intro s hs Kn j
    induction j with
    | zero =>
      intro r h1 hj a1 a3
      have : r = N := by omega
      subst this
      obtain ⟨F, hF, f0, -⟩ := a1.1
      refine b_Chains_reachingPairs_19 ⟨F, hF, _, f0, ifT (Int32.le_refl _) ?_⟩
      rw [nI_1]
      exact Kn h1 a1.cl a1.ch a3
    | succ j ih =>
      intro r h1 hj a1 a3
      obtain ⟨F, hF, f0, -⟩ := a1.1
      have := ih (r + 1) h1 (by omega) a1 a3
      refine b_Chains_reachingPairs_19 ⟨F, hF, _, f0, ifF (nI_ge (by omega) (by omega)) (ifB (fun c => ?_) (fun c => ⟨⟨F, hF⟩, cC_reachesAim a1 (hp_bf hw hN hs 6) hN (by omega) ⟨_, rfl, ?_⟩⟩))⟩
      · have ers := (nI_eq (by omega) (by omega)).mp c
        rw [cnL_s0 (by unfold rpB; simp [ers])] at this
        rw [nI_1]
        exact this
      · have ers : r ≠ s := fun q => c (by rw [q])
        rw [nI_1]
        cases c2 : decide (bfD w N s 6 r < bI) with
        | true =>
          rw [cnL_s1 (by unfold rpB rcB; rw [c2]; simp [ers])] at this
          rw [nI_1]
          exact ifF (by decide) this
        | false =>
          rw [cnL_s0 (by unfold rpB rcB; rw [c2]; simp)] at this
          exact ifT (by decide) this
  have outer : ∀ j s h1, s + j = N → clA h1 w N → chO h1 → zFr (fun z => z = 117 ∨ z = 119) h h1 → zW (d + 5) m_Chains_reachingPairs e 4 [.ref 117, .int (nI (cnP (rpB w N) N s)), .int (nI s), zD] [] h1 Q := by
    intro j
    induction j with
    | zero =>
      intro s h1 hj a1 a2 a3
      have : s = N := by omega
      subst this
      obtain ⟨F, hF, f0, -⟩ := a1.1
      exact b_Chains_reachingPairs_4 ⟨F, hF, _, f0, ifT (Int32.le_refl _) (K h1 a1 a2 a3)⟩
    | succ j ih =>
      intro s h1 hj a1 a2 a3
      obtain ⟨F, hF, f0, -⟩ := a1.1
      obtain ⟨g, hg⟩ := a2.2.2
      exact b_Chains_reachingPairs_4 ⟨F, hF, _, f0, ifF (nI_ge (by omega) (by omega)) ⟨⟨F, hF⟩, cC_aimAt a1 hg hw hN (by omega) (fun h2 b1 b2 => ⟨rfl, inner s (by omega) (fun h3 c1 c2 c3 => ih (s + 1) h3 (by omega) c1 c2 c3) N 0 h2 (by omega) b1 (a3.trans b2)⟩)⟩⟩
  exact outer N 0 h (by omega) hc hc2 zFr.rf
end C
