/-! Chains -/
def enI (x : Nat) : Int32 := if x = bI then -4 else nI x
def enW (x : Nat) : Int32 := if x = 0 then -4 else nI x
def b01 (b : Bool) : Int32 := if b = true then 1 else 0
/-- the lines are taken -/
def clA (h : zH) (w : Nat → Nat → Nat) (N : Nat) : Prop := (∃ F, h.2 117 = zO 1 F ∧ F 0 = .int (nI N) ∧ F 2 = .ref 118 ∧ F 3 = .ref 119) ∧ ∃ f, h.2 118 = zI 0 49 f ∧ ∀ r s, r < N → s < N → f (7 * r + s) = enW (w r s)
/-- the chains to an aim are weighed so far -/
def cwA (h : zH) (w : Nat → Nat → Nat) (N a : Nat) (D : Nat → Nat) : Prop := (∃ F, h.2 117 = zO 1 F ∧ F 0 = .int (nI N) ∧ F 1 = .int (nI a) ∧ F 2 = .ref 118 ∧ F 3 = .ref 119) ∧ (∃ f, h.2 118 = zI 0 49 f ∧ ∀ r s, r < N → s < N → f (7 * r + s) = enW (w r s)) ∧ ∃ g, h.2 119 = zI 0 7 g ∧ ∀ r, r < 7 → g r = enI (D r)
theorem cwA.cl {h : zH} {w : Nat → Nat → Nat} {N a : Nat} {D : Nat → Nat} (c : cwA h w N a D) : clA h w N := by
  obtain ⟨⟨F, h1, h2, -, h3⟩, h4, -⟩ := c
  exact ⟨⟨F, h1, h2, h3⟩, h4⟩
theorem zI_inj {t n : Nat} {f g : Nat → Int32} (h : zI t n f = zI t n g) : f = g := by
  cases h; rfl
theorem nI_m4 {n : Nat} (h : n < 2 ^ 31) : ¬ nI n = -4 := fun q => by
  have := congrArg Int32.toInt q
  rw [nI_toInt h] at this
  have e : (-4 : Int32).toInt = -4 := by decide
  omega
section C
variable {d : Nat} {e : Nat × Nat} {h : zH} {Q : zQ} {w : Nat → Nat → Nat} {N a : Nat} {D : Nat → Nat} {r s : Nat}
theorem cC_weightBy (hc : cwA h w N a D) (hp : hpI w N a D) (hw : wOK w) (hN : N ≤ 7) (hr : r < N) (hs : s < N)
    (K0 : w r s = 0 ∨ D s = bI → Q (some (.int (-4))) h) (K1 : w r s ≠ 0 → D s < bI → Q (some (.int (nI (w r s + D s)))) h) : zW (d + 1) m_Chains_weightBy e 0 [.ref 117, .int (nI r), .int (nI s), zD] [] h Q := by
  obtain ⟨⟨F, hF, f0, f1, f2, f3⟩, ⟨f, hf, hf2⟩, g, hg, hg2⟩ := hc
  refine b_Chains_weightBy_0 ⟨F, hF, _, f2, 49, f, hf, ?_⟩
  rw [ix7]
  refine ⟨zIn_nI (by omega) (by decide), ?_⟩
  rw [nI_clamp (by omega), hf2 r s hr hs]
  by_cases c : w r s = 0
  · exact ifT (by unfold enW; rw [if_pos c]) (K0 (Or.inl c))
  · have hwb := hw r s c
    have ew : enW (w r s) = nI (w r s) := if_neg c
    rw [ew]
    refine ifF (nI_m4 (by omega)) ⟨F, hF, _, f3, 7, g, hg, zIn_nI (by omega) (by decide), ?_⟩
    rw [nI_clamp (by omega), hg2 s (by omega)]
    by_cases c2 : D s = bI
    · exact ifT (by unfold enI; rw [if_pos c2]) (K0 (Or.inr c2))
    · have hlt : D s < bI := by have := hp.2.1 s; omega
      have ed : enI (D s) = nI (D s) := if_neg c2
      have hb := hp_bd hN hp hs hlt
      rw [ed]
      refine ifF (nI_m4 (by omega)) ⟨F, hF, _, f3, 7, g, hg, zIn_nI (by omega) (by decide), ?_⟩
      rw [hg2 s (by omega), ed, nI_add]
      exact K1 c hlt
theorem cwA.put (hc : cwA h w N a D) (hr : r < 7) {v : Nat} (hv : v < bI) : ∃ g, h.2 119 = zI 0 7 g ∧ cwA (zP h 119 (zI 0 7 (zU g r (nI v)))) w N a (zU D r v) := by
  obtain ⟨⟨F, hF, q⟩, ⟨f, hf, hf2⟩, g, hg, hg2⟩ := hc
  refine ⟨g, hg, ⟨F, (zP_ne _ _ (by decide)).trans hF, q⟩, ⟨f, (zP_ne _ _ (by decide)).trans hf, hf2⟩, _, zP_same _ _ _, fun x hx => ?_⟩
  by_cases ex : x = r
  · rw [ex, zU_same, zU_same]
    exact (if_neg (by omega)).symm
  · rw [zU_ne _ _ ex, zU_ne _ _ ex]; exact hg2 x hx
theorem cC_improve (hc : cwA h w N a D) (hp : hpI w N a D) (hw : wOK w) (hN : N ≤ 7) (hr : r < N)
    (K : ∀ h', cwA h' w N a (rlR w r D N) → zFr (fun z => z = 119) h h' → Q (some (.int (b01 (flR w r D N)))) h') : zW (d + 2) m_Chains_improve e 0 [.ref 117, .int (nI r), zD, zD, zD] [] h Q := by
  refine b_Chains_improve_0 ?_
  have key : ∀ j s (h1 : zH), s + j = N → cwA h1 w N a (rlR w r D s) → zFr (fun z => z = 119) h h1 → zW (d + 2) m_Chains_improve e 4 [.ref 117, .int (nI r), .int (b01 (flR w r D s)), .int (nI s), zD] [] h1 Q := by
    intro j
    induction j with
    | zero =>
      intro s h1 hj hc1 hf1
      have : s = N := by omega
      subst this
      obtain ⟨F, hF, f0, -⟩ := hc1.1
      refine b_Chains_improve_4 ⟨F, hF, _, f0, ifT (Int32.le_refl _) ⟨?_, K h1 hc1 hf1⟩⟩
      unfold b01
      split
      · exact Or.inr rfl
      · exact Or.inl rfl
    | succ j ih =>
      intro s h1 hj hc1 hf1
      have hp1 : hpI w N a (rlR w r D s) := rlR_keep (X := hpI w N a) (fun _ _ _ => hp_rlx hw hN) hr hp s (by omega)
      obtain ⟨F, hF, f0, f1, f2, f3⟩ := hc1.1
      have hs : s < N := by omega
      have no : imp w (rlR w r D s) r s = false → zW (d + 2) m_Chains_improve e 4 [.ref 117, .int (nI r), .int (b01 (flR w r D s)), .int (nI s + 1), zD] [] h1 Q := fun c => by
        have := ih (s + 1) h1 (by omega) (by show cwA h1 w N a (rlx w (rlR w r D s) r s); rw [rlx_f c]; exact hc1) hf1
        rw [show flR w r D (s + 1) = flR w r D s by show (flR w r D s || imp w (rlR w r D s) r s) = _; rw [c, Bool.or_false]] at this
        rw [nI_1]
        exact this
      have yes : imp w (rlR w r D s) r s = true → ∀ g, h1.2 119 = zI 0 7 g → zW (d + 2) m_Chains_improve e 4 [.ref 117, .int (nI r), .int 1, .int (nI s + 1), zD] [] (zP h1 119 (zI 0 7 (zU g r (nI (w r s + rlR w r D s s))))) Q := fun c g hg => by
        have hi := imp_t c
        have hrb := hp1.2.1 r
        obtain ⟨g', hg', hc2⟩ := hc1.put (r := r) (v := w r s + rlR w r D s s) (by omega) (by omega)
        have eg : g' = g := by rw [hg] at hg'; exact (zI_inj hg').symm
        subst eg
        have := ih (s + 1) _ (by omega) (by show cwA _ w N a (rlx w (rlR w r D s) r s); rw [rlx_t c]; exact hc2) (hf1.trans (zFr.put rfl))
        rw [show flR w r D (s + 1) = true by show (flR w r D s || imp w (rlR w r D s) r s) = _; rw [c, Bool.or_true]] at this
        rw [nI_1]
        exact this
      refine b_Chains_improve_4 ⟨F, hF, _, f0, ifF (nI_ge hs (by omega)) ⟨⟨F, hF⟩, cC_weightBy hc1 hp1 hw hN hr hs (fun c => ⟨_, rfl, ifT rfl (no ?_)⟩) (fun c1 c2 => ?_)⟩⟩
      · cases q : imp w (rlR w r D s) r s with
        | false => rfl
        | true =>
          have := imp_t q
          have := hp1.2.1 r
          omega
      · have hb := hp_bd hN hp1 hs c2
        have hwb := hw r s c1
        obtain ⟨-, -, g, hg, hg2⟩ := id hc1
        refine ⟨_, rfl, ifF (nI_m4 (by omega)) ⟨F, hF, _, f3, 7, g, hg, zIn_nI (by omega) (by decide), ?_⟩⟩
        rw [nI_clamp (by omega), hg2 r (by omega)]
        by_cases c3 : rlR w r D s r = bI
        · refine ifT (by unfold enI; rw [if_pos c3]) ⟨F, hF, _, f3, 7, g, hg, zIn_nI (by omega) (by decide), ?_⟩
          rintro h14 rfl
          exact yes (by unfold imp; simp only [Bool.and_eq_true, decide_eq_true_eq]; exact ⟨c1, by rw [c3]; unfold bI; omega⟩) g hg
        · have hrb := hp1.2.1 r
          have hb2 := hp_bd hN hp1 hr (by omega)
          have er : enI (rlR w r D s r) = nI (rlR w r D s r) := if_neg c3
          rw [er]
          refine ifF (nI_m4 (by omega)) ⟨F, hF, _, f3, 7, g, hg, zIn_nI (by omega) (by decide), ?_⟩
          rw [hg2 r (by omega), er]
          refine ifB (fun c4 => no ?_) (fun c4 => ⟨F, hF, _, f3, 7, g, hg, zIn_nI (by omega) (by decide), ?_⟩)
          · have := (nI_leI (by omega) (by omega)).mp c4
            unfold imp
            simp only [Bool.and_eq_false_iff, decide_eq_false_iff_not]
            omega
          · rintro h23 rfl
            have := mt (nI_leI (a := rlR w r D s r) (b := w r s + rlR w r D s s) (by omega) (by omega)).mpr c4
            exact yes (by unfold imp; simp only [Bool.and_eq_true, decide_eq_true_eq]; exact ⟨c1, by omega⟩) g hg
  exact key N 0 h (by omega) hc zFr.rf
end C
