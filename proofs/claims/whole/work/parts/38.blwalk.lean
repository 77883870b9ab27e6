/-! BeaconLines: along THE CHAIN -/
def blR (F : Nat → Value) : Prop := F 0 = .ref 9 ∧ F 1 = .ref 10 ∧ F 2 = .ref 14 ∧ F 3 = .ref 15 ∧ F 4 = .ref 117 ∧ F 5 = .ref 120 ∧ F 6 = .ref 123 ∧ F 7 = .ref 124 ∧ F 8 = .ref 125 ∧ F 9 = .ref 126
section C
variable {d : Nat} {e : Nat × Nat} {h : zH} {Q : zQ} {F : Nat → Value} {l q : Int32} {S : Nat → Int32} {nw N a r s : Nat} {v : Int64} {o : Bool}
theorem cX_freshChains (hF : h.2 8 = zO 9 F) (hR : blR F) (hb : bkA h 15 (nI N) l q S) (hw : wbA h S l q nw) (hc : chO h) (hS : StK S) (hq : 2 ≤ q) (hl : 0 ≤ l) (hl2 : l ≤ 99) (hnw : nw < 2 ^ 30) (hN : N ≤ 7)
    (K : ∀ h', wbA h' S l q nw → clA h' (wtW S l q N) N → chO h' → zFr (fun z => 19 ≤ z ∧ z < 119) h h' → Q (some (.ref 117)) h') : zW (d + 6) m_BL_freshChains e 0 [.ref 8] [] h Q := by
  refine b_BL_freshChains_0 ⟨F, hF, _, hR.2.2.2.2.1, F, hF, _, hR.2.2.1, hc.1.imp fun _ w => w.1, cC_renew hb hw hc hS hq hl hl2 hnw hN (fun h' a1 a2 a3 a4 => ⟨rfl, F, by rw [a4 _ (by omega)]; exact hF, _, hR.2.2.2.2.1, K h' a1 a2 a3 a4⟩)⟩
theorem cX_takeAlong (hF : h.2 8 = zO 9 F) (hR : blR F) (hb : bkA h 15 (nI N) l q S) (hw : wbA h S l q nw) (hc : clA h (wtW S l q N) N) (hc2 : chO h) (ht : tmA h v o) (hS : StK S) (hq : 2 ≤ q) (hl : 0 ≤ l) (hl2 : l ≤ 99) (hnw : nw < 2 ^ 30) (hN : N ≤ 7) (hr : r < N) (ha : a < N) (hD : wD S l q N a r < bI)
    (K : ∀ h', wbA h' S l q nw → clA h' (wtW S l q N) N → chO h' → tmA h' (gT S l q N a r v (hpN S l q N a r)).1 (o || (gT S l q N a r v (hpN S l q N a r)).2) → zFr (fun z => (19 ≤ z ∧ z < 120) ∨ z = 123) h h' → Q none h') : zW (d + 5) m_BL_takeAlong e 0 [.ref 8, .int (nI r), .int (nI a), zD, zD, zD] [] h Q := by
  have hwt := wt_ok (S := S) (li := l) (le := q) hS hq hl hl2 hN
  obtain ⟨g, hg⟩ := hc2.2.2
  refine b_BL_takeAlong_0 ⟨F, hF, _, hR.2.2.2.2.1, hc2.1.imp fun _ w => w.1, cC_aimAt hc hg hwt hN ha (fun h1 hc1 hf1 => ⟨rfl, ?_⟩)⟩
  have h6 : hpN S l q N a r ≤ 6 := hp_6 hN (hp_bf hwt hN ha 6) hr hD
  have loop : ∀ j i (h2 : zH), i + j = hpN S l q N a r → wbA h2 S l q nw → cwA h2 (wtW S l q N) N a (wD S l q N a) → tmA h2 (gT S l q N a r v i).1 (o || (gT S l q N a r v i).2) → zFr (fun z => (19 ≤ z ∧ z < 120) ∨ z = 123) h h2 →
      zW (d + 5) m_BL_takeAlong e 13 [.ref 8, zD, .int (nI a), .int (nI (wkC S l q N a r i)), .int (nI i), zD] [] h2 Q := by
    intro j
    induction j with
    | zero =>
      intro i h2 hj a1 a2 a3 a4
      have ei : i = hpN S l q N a r := by omega
      subst ei
      have ew : wkC S l q N a r (hpN S l q N a r) = a := (wk_end hwt hN ha hr hD (i := hpN S l q N a r) (Nat.le_refl _)).mpr rfl
      rw [ew]
      exact b_BL_takeAlong_13 (ifF (show ¬ nI 7 ≤ nI _ from nI_ge (by omega) (by decide)) (ifT rfl (K h2 a1 a2.cl a2.ch a3 a4)))
    | succ j ih =>
      intro i h2 hj a1 a2 a3 a4
      obtain ⟨w1, w2, w3, w4, w5, w6⟩ := wk_step hS hq hl hl2 hN hr ha hD (i := i) (by omega)
      have hF2 : h2.2 8 = zO 9 F := by rw [a4 _ (by omega)]; exact hF
      have hb2 := hb.fr a4 (by omega) (by omega)
      obtain ⟨x1, x2, x3⟩ := nx_ok hwt hN ha w1 w5 w6
      refine b_BL_takeAlong_13 (ifF (show ¬ nI 7 ≤ nI _ from nI_ge (by omega) (by decide)) (ifF (fun w => w5 ((nI_eq (by omega) (by omega)).mp w)) ⟨F, hF2, _, hR.2.2.2.2.1, a2.1.imp fun _ w => w.1, cC_nextToAim a2 (hp_bf hwt hN ha 6) hwt hN w1 w6 ⟨_, x1, x2⟩ (fun t t1 t2 t3 => ?_)⟩))
      have et : wkC S l q N a r (i + 1) = t := nx_eq t1 t2 t3
      subst et
      refine ⟨_, rfl, F, hF2, _, hR.2.2.2.2.2.2.1, F, hF2, _, hR.2.2.1, a1.1.1.imp fun _ w => w.1, cW_lineOf hb2 a1 hS hq hnw (by omega) (by omega) (fun h3 F3 K3 hw3 hf3 hF3 hK3 f11 hR3 => ⟨_, rfl, ?_⟩)⟩
      have ht3 : tmA h3 (gT S l q N a r v i).1 (o || (gT S l q N a r v i).2) := a3.imp fun _ w => ⟨by rw [hf3 _ (by omega)]; exact w.1, w.2⟩
      obtain ⟨hn, hx⟩ := good_pos hS hq (by omega) (by omega) w4
      obtain ⟨hp, -⟩ := fR_ok (li := l) hS hq (show wkC S l q N a r i < 7 by omega) (show wkC S l q N a r (i + 1) < 7 by omega)
      refine ⟨ht3.imp fun _ w => w.1, cX_takeBy (by omega) ht3 hF3 hR3.2.1 hS (by omega) (by omega) hp hn hx (fun h4 ht4 hf4 => ⟨rfl, ?_⟩)⟩
      rw [nI_1]
      have c3 : cwA h3 (wtW S l q N) N a (wD S l q N a) := by
        obtain ⟨b1, b2, b3⟩ := a2
        exact ⟨b1.imp fun _ w => ⟨by rw [hf3 _ (by omega)]; exact w.1, w.2⟩, b2.imp fun _ w => ⟨by rw [hf3 _ (by omega)]; exact w.1, w.2⟩, b3.imp fun _ w => ⟨by rw [hf3 _ (by omega)]; exact w.1, w.2⟩⟩
      have c4 : cwA h4 (wtW S l q N) N a (wD S l q N a) := by
        obtain ⟨b1, b2, b3⟩ := c3
        exact ⟨b1.imp fun _ w => ⟨by rw [hf4 _ (by decide)]; exact w.1, w.2⟩, b2.imp fun _ w => ⟨by rw [hf4 _ (by decide)]; exact w.1, w.2⟩, b3.imp fun _ w => ⟨by rw [hf4 _ (by decide)]; exact w.1, w.2⟩⟩
      rw [Bool.or_assoc] at ht4
      exact ih (i + 1) h4 (by omega) (hw3.fr hf4 (fun z hz => by omega)) c4 ht4 ((a4.trans (hf3.sub (fun z hz => by omega))).trans (hf4.sub (fun z hz => Or.inr hz)))
  have hw1 := hw.fr hf1 (fun z hz => by omega)
  have ht1 : tmA h1 v (o || false) := by
    rw [Bool.or_false]
    exact ht.imp fun _ w => ⟨by rw [hf1 _ (by decide)]; exact w.1, w.2⟩
  exact loop (hpN S l q N a r) 0 h1 (Nat.zero_add _) hw1 hc1 ht1 (hf1.sub (fun z hz => by omega))
end C
