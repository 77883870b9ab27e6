/-! Chains: to an aim -/
theorem s3 : (((3 : Int32) &&& 31).toBitVec.smod 32).toNat = 3 := by decide
def wtW (S : Nat → Int32) (li le : Int32) (N r s : Nat) : Nat := if r < N ∧ s < N then wtN S li le r s else 0
theorem wt_ok {S : Nat → Int32} {li le : Int32} {N : Nat} (hS : StK S) (hle : 2 ≤ le) (hli : 0 ≤ li) (hli2 : li ≤ 99) (hN : N ≤ 7) : wOK (wtW S li le N) := fun r s h => by
  unfold wtW at h ⊢
  split at h
  · rename_i c
    rw [if_pos c]
    have := cs_bd (S := S) (r := r) (s := s) hS hle hli hli2 (by omega) (by omega)
    unfold wtN at h ⊢
    split at h
    · exact absurd rfl h
    · rename_i c2
      rw [if_neg c2]
      omega
  · exact absurd rfl h
section C
variable {d : Nat} {e : Nat × Nat} {h : zH} {Q : zQ} {w : Nat → Nat → Nat} {N a : Nat} {D : Nat → Nat} {r s : Nat}
theorem cC_aimAt {g0 : Nat → Int32} (hc : clA h w N) (h119 : h.2 119 = zI 0 7 g0) (hw : wOK w) (hN : N ≤ 7) (ha : a < N)
    (K : ∀ h', cwA h' w N a (bfD w N a 6) → zFr (fun z => z = 117 ∨ z = 119) h h' → Q none h') : zW (d + 3) m_Chains_aimAt e 0 [.ref 117, .int (nI a), zD, zD, zD] [] h Q := by
  obtain ⟨⟨F, hF, f0, f2, f3⟩, f, hf, hf2⟩ := hc
  refine b_Chains_aimAt_0 ⟨F, hF, ?_⟩
  rintro h2 rfl
  refine ⟨_, zP_same _ _ _, _, f3, cJ_fillI (n := 7) (f := g0) ((zP_ne _ _ (by decide)).trans h119) (by decide) (fun g hg => ⟨rfl, _, (zP_ne _ _ (by decide)).trans (zP_same _ _ _), _, f3, 7, g, zP_same _ _ _, zIn_nI (by omega) (by decide), ?_⟩)⟩
  rintro h11 rfl
  rw [zP_zP, nI_clamp (by omega)]
  have hfr : zFr (fun z => z = 117 ∨ z = 119) h (zP (zP h 117 (zO 1 (zU F 1 (.int (nI a))))) 119 (zI 0 7 (zU g a 0))) := (zFr.put (Or.inl rfl)).trans (zFr.put (Or.inr rfl))
  have hc0 : cwA (zP (zP h 117 (zO 1 (zU F 1 (.int (nI a))))) 119 (zI 0 7 (zU g a 0))) w N a (bfD w N a 0) := by
    refine ⟨⟨_, (zP_ne _ _ (by decide)).trans (zP_same _ _ _), f0, rfl, f2, f3⟩, ⟨f, by rw [hfr _ (by decide)]; exact hf, hf2⟩, _, zP_same _ _ _, fun x hx => ?_⟩
    show _ = enI (zU (fun _ => bI) a 0 x)
    by_cases ex : x = a
    · rw [ex, zU_same, zU_same]; rfl
    · rw [zU_ne _ _ ex, zU_ne _ _ ex, hg x hx]
      exact (if_pos rfl).symm
  generalize zP (zP h 117 (zO 1 (zU F 1 (.int (nI a))))) 119 (zI 0 7 (zU g a 0)) = h0 at hfr hc0
  have inner : ∀ k, (∀ h1, cwA h1 w N a (bfD w N a (k + 1)) → zFr (fun z => z = 117 ∨ z = 119) h h1 → zW (d + 3) m_Chains_aimAt e 25 [.ref 117, zD, .int (b01 (flA w N (bfD w N a k) N)), .int (nI (k + 1)), zD] [] h1 Q) →
      ∀ j r (h1 : zH), r + j = N → cwA h1 w N a (rlA w N (bfD w N a k) r) → zFr (fun z => z = 117 ∨ z = 119) h h1 → zW (d + 3) m_Chains_aimAt e 40 [.ref 117, zD, .int (b01 (flA w N (bfD w N a k) r)), .int (nI k), .int (nI r)] [] h1 Q := by
    intro k Kn j
    induction j with
    | zero =>
      intro r h1 hj hc1 hf1
      have : r = N := by omega
      subst this
      obtain ⟨F, hF, f0, -⟩ := hc1.1
      refine b_Chains_aimAt_40 ⟨F, hF, _, f0, ifT (Int32.le_refl _) ?_⟩
      rw [nI_1]
      exact Kn h1 hc1 hf1
    | succ j ih =>
      intro r h1 hj hc1 hf1
      obtain ⟨F, hF, f0, -⟩ := hc1.1
      have hr : r < N := by omega
      have hp1 : hpI w N a (rlA w N (bfD w N a k) r) := rlA_keep (X := hpI w N a) (fun _ _ _ => hp_rlx hw hN) (hp_bf hw hN ha k) r (by omega)
      refine b_Chains_aimAt_40 ⟨F, hF, _, f0, ifF (nI_ge hr (by omega)) ⟨⟨F, hF⟩, cC_improve hc1 hp1 hw hN hr (fun h2 hc2 hf2 => ⟨_, rfl, ?_⟩)⟩⟩
      have hf3 := hf1.trans (hf2.sub (B := fun z => z = 117 ∨ z = 119) (fun z hz => Or.inr hz))
      have := ih (r + 1) h2 (by omega) hc2 hf3
      rw [nI_1]
      cases c : flR w r (rlA w N (bfD w N a k) r) N with
      | true =>
        rw [show flA w N (bfD w N a k) (r + 1) = true by show (flA w N (bfD w N a k) r || flR w r (rlA w N (bfD w N a k) r) N) = _; rw [c, Bool.or_true]] at this
        exact ifF (by decide) this
      | false =>
        rw [show flA w N (bfD w N a k) (r + 1) = flA w N (bfD w N a k) r by show (flA w N (bfD w N a k) r || flR w r (rlA w N (bfD w N a k) r) N) = _; rw [c, Bool.or_false]] at this
        exact ifT (by decide) this
  have outer : ∀ j k (b : Bool) (h1 : zH), k + j = 7 → (b = false → bfD w N a k = bfD w N a 6) → cwA h1 w N a (bfD w N a k) → zFr (fun z => z = 117 ∨ z = 119) h h1 → zW (d + 3) m_Chains_aimAt e 25 [.ref 117, zD, .int (b01 b), .int (nI k), zD] [] h1 Q := by
    intro j
    induction j with
    | zero =>
      intro k b h1 hj hb hc1 hf1
      have : k = 7 := by omega
      subst this
      rw [show bfD w N a 7 = bfD w N a 6 from bf_more hN ha 1] at hc1
      exact b_Chains_aimAt_25 (ifB (fun _ => K h1 hc1 hf1) (fun _ => ifT (Int32.le_refl _) (K h1 hc1 hf1)))
    | succ j ih =>
      intro k b h1 hj hb hc1 hf1
      refine b_Chains_aimAt_25 ?_
      cases b with
      | false =>
        rw [hb rfl] at hc1
        exact ifT rfl (K h1 hc1 hf1)
      | true =>
        refine ifF (by decide) (ifF (nI_ge (b := 7) (by omega) (by decide)) (inner k (fun h2 hc2 hf2 => ?_) N 0 h1 (by omega) hc1 hf1))
        refine ih (k + 1) _ h2 (by omega) (fun q => ?_) hc2 hf2
        rw [show bfD w N a (k + 1) = bfD w N a k from (flA_f N q).1]
        exact bf_end hN ha q
  exact outer 7 0 true h0 (by omega) (fun q => absurd q (by decide)) hc0 hfr
theorem cC_reachesAim (hc : cwA h w N a D) (hp : hpI w N a D) (hN : N ≤ 7) (hr : r < N) (K : Q (some (.int (b01 (decide (D r < bI))))) h) : zW (d + 1) m_Chains_reachesAim e 0 [.ref 117, .int (nI r)] [] h Q := by
  obtain ⟨⟨F, hF, f0, f1, f2, f3⟩, -, g, hg, hg2⟩ := hc
  refine b_Chains_reachesAim_0 ⟨F, hF, _, f3, 7, g, hg, zIn_nI (by omega) (by decide), ?_⟩
  rw [nI_clamp (by omega), hg2 r (by omega)]
  have hrb := hp.2.1 r
  by_cases c : D r = bI
  · refine ifT (by unfold enI; rw [if_pos c]) ⟨by decide, ?_⟩
    rw [c] at K
    exact K
  · have hb := hp_bd hN hp hr (by omega)
    rw [show decide (D r < bI) = true from decide_eq_true (by omega)] at K
    exact ifF (by unfold enI; rw [if_neg c]; exact nI_m4 (by omega)) ⟨by decide, K⟩
theorem cC_costToAim (hc : cwA h w N a D) (hp : hpI w N a D) (hN : N ≤ 7) (hr : r < N) (hD : D r < bI) (K : Q (some (.int (nI (D r / 8)))) h) : zW (d + 1) m_Chains_costToAim e 0 [.ref 117, .int (nI r)] [] h Q := by
  obtain ⟨⟨F, hF, f0, f1, f2, f3⟩, -, g, hg, hg2⟩ := hc
  have hb := hp_bd hN hp hr hD
  refine b_Chains_costToAim_0 ⟨F, hF, _, f3, 7, g, hg, zIn_nI (by omega) (by decide), ?_⟩
  rw [nI_clamp (by omega), hg2 r (by omega), show enI (D r) = nI (D r) from if_neg (by omega), pk_shrN (by omega) _ 3 s3]
  exact K
theorem cC_hopsToAim (hc : cwA h w N a D) (hp : hpI w N a D) (hN : N ≤ 7) (hr : r < N) (hD : D r < bI) (K : Q (some (.int (nI (D r % 8)))) h) : zW (d + 1) m_Chains_hopsToAim e 0 [.ref 117, .int (nI r)] [] h Q := by
  obtain ⟨⟨F, hF, f0, f1, f2, f3⟩, -, g, hg, hg2⟩ := hc
  have hb := hp_bd hN hp hr hD
  refine b_Chains_hopsToAim_0 ⟨F, hF, _, f3, 7, g, hg, zIn_nI (by omega) (by decide), ?_⟩
  rw [nI_clamp (by omega), hg2 r (by omega), show enI (D r) = nI (D r) from if_neg (by omega), pk_andN (by omega) 3 (by decide)]
  exact K
/-- s fits behind r -/
def fitsN (w : Nat → Nat → Nat) (D : Nat → Nat) (r s : Nat) : Prop := w r s ≠ 0 ∧ D s < bI ∧ w r s + D s = D r
theorem cC_nextToAim (hc : cwA h w N a D) (hp : hpI w N a D) (hw : wOK w) (hN : N ≤ 7) (hr : r < N) (hD : D r < bI) (hex : ∃ s, s < N ∧ fitsN w D r s)
    (K : ∀ s, s < N → fitsN w D r s → (∀ s', s' < s → ¬ fitsN w D r s') → Q (some (.int (nI s))) h) : zW (d + 2) m_Chains_nextToAim e 0 [.ref 117, .int (nI r), zD] [] h Q := by
  refine b_Chains_nextToAim_0 ?_
  have key : ∀ j s, s + j = N → (∀ s', s' < s → ¬ fitsN w D r s') → zW (d + 2) m_Chains_nextToAim e 2 [.ref 117, .int (nI r), .int (nI s)] [] h Q := by
    intro j
    induction j with
    | zero =>
      intro s hj hs
      obtain ⟨s0, q1, q2⟩ := hex
      exact absurd q2 (hs s0 (by omega))
    | succ j ih =>
      intro s hj hs
      obtain ⟨⟨F, hF, f0, f1, f2, f3⟩, -, g, hg, hg2⟩ := id hc
      have hb := hp_bd hN hp hr hD
      have er : enI (D r) = nI (D r) := if_neg (by omega)
      have no : ¬ fitsN w D r s → zW (d + 2) m_Chains_nextToAim e 2 [.ref 117, .int (nI r), .int (nI s + 1)] [] h Q := fun c => by
        rw [nI_1]
        refine ih (s + 1) (by omega) (fun s' hs' => ?_)
        by_cases es : s' = s
        · rw [es]; exact c
        · exact hs s' (by omega)
      refine b_Chains_nextToAim_2 ⟨F, hF, _, f0, ifF (nI_ge (by omega) (by omega)) ⟨⟨F, hF⟩, cC_weightBy hc hp hw hN hr (by omega) (fun c => ⟨_, rfl, F, hF, _, f3, 7, g, hg, zIn_nI (by omega) (by decide), ?_⟩) (fun c1 c2 => ⟨_, rfl, F, hF, _, f3, 7, g, hg, zIn_nI (by omega) (by decide), ?_⟩)⟩⟩
      · rw [nI_clamp (by omega), hg2 r (by omega), er]
        refine ifF (fun q => nI_m4 (by omega) q.symm) (no (fun q => ?_))
        have := q.1
        have := q.2.1
        omega
      · have hb2 := hp_bd hN hp (show s < N by omega) c2
        have hwb := hw r s c1
        rw [nI_clamp (by omega), hg2 r (by omega), er]
        refine ifB (fun c3 => K s (by omega) ⟨c1, c2, (nI_eq (by omega) (by omega)).mp c3⟩ hs) (fun c3 => no (fun q => c3 (by rw [q.2.2])))
  exact key N 0 (by omega) (fun s' hs' => absurd hs' (Nat.not_lt_zero _))
end C
