/-! The Model: the least costs, step by step with the weights -/
def leE (x : Nat) : Int32 := if x = bI then 1000000000 else nI (x / 8)
def hoE (x : Nat) : Int32 := if x = bI then 0 else nI (x % 8)
def cwR (c w : Nat → Nat → Nat) (N : Nat) : Prop := ∀ r s, r < N → s < N → c r s ≤ 25345 ∧ w r s = if c r s = 0 then 0 else 8 * c r s + 1
/-- costs, least, hops -/
def mwA (h : zH) (c : Nat → Nat → Nat) (N : Nat) (D : Nat → Nat) : Prop := (∃ f, h.2 147 = zI 0 49 f ∧ ∀ r s, r < N → s < N → f (7 * r + s) = nI (c r s)) ∧ (∃ f, h.2 148 = zI 0 7 f ∧ ∀ r, r < 7 → f r = leE (D r)) ∧ ∃ f, h.2 149 = zI 0 7 f ∧ ∀ r, r < 7 → f r = hoE (D r)
theorem le_big : (1000000000 : Int32) = nI 1000000000 := rfl
section C
variable {d : Nat} {e : Nat × Nat} {h : zH} {Q : zQ} {G : Nat → Value} {c w : Nat → Nat → Nat} {N a : Nat} {D : Nat → Nat} {r s : Nat}
theorem cM_isLess (hG : h.2 139 = zO 10 G) (hR : mR G) (hc : mwA h c N D) (hcw : cwR c w N) (hp : hpI w N a D) (hN : N ≤ 7) (hr : r < N) (hs : s < N) (K : Q (some (.int (b01 (imp w D r s)))) h) : zW (d + 1) m_Mo_isLess e 0 [.ref 139, .int (nI r), .int (nI s), zD, zD] [] h Q := by
  obtain ⟨⟨f, hf, hf2⟩, ⟨g, hg, hg2⟩, k, hk, hk2⟩ := hc
  obtain ⟨hcb, hw⟩ := hcw r s hr hs
  have r25 : G 25 = .ref 147 := hR.2.2.2.2.2.2.2.1
  have r26 : G 26 = .ref 148 := hR.2.2.2.2.2.2.2.2.1
  have r27 : G 27 = .ref 149 := hR.2.2.2.2.2.2.2.2.2.1
  have hrb := hp.2.1 r
  have hsb := hp.2.1 s
  have yes : imp w D r s = true → ((1 : Int32) = 0 ∨ (1 : Int32) = 1) ∧ Q (some (.int 1)) h := fun q => by rw [q] at K; exact ⟨by decide, K⟩
  have no : imp w D r s = false → ((0 : Int32) = 0 ∨ (0 : Int32) = 1) ∧ Q (some (.int 0)) h := fun q => by rw [q] at K; exact ⟨by decide, K⟩
  have impF : ¬ (w r s ≠ 0 ∧ w r s + D s < D r) → imp w D r s = false := fun q => by
    unfold imp
    simp only [Bool.and_eq_false_iff, decide_eq_false_iff_not]
    omega
  have impT : w r s ≠ 0 → w r s + D s < D r → imp w D r s = true := fun q1 q2 => by
    unfold imp
    simp only [Bool.and_eq_true, decide_eq_true_eq]
    exact ⟨q1, q2⟩
  refine b_Mo_isLess_0 ⟨G, hG, _, r25, 49, f, hf, ?_⟩
  rw [ix7b]
  refine ⟨zIn_nI (by omega) (by decide), ?_⟩
  rw [nI_clamp (by omega), hf2 r s hr hs]
  by_cases c0 : c r s = 0
  · rw [c0]
    exact ifT rfl (no (impF (fun q => by rw [hw, if_pos c0] at q; exact q.1 rfl)))
  · rw [if_neg c0] at hw
    refine ifF (nI_ne0 (by omega) (by omega)) (b_Mo_isLess_16 ⟨G, hG, _, r26, 7, g, hg, zIn_nI (by omega) (by decide), ?_⟩)
    rw [nI_clamp (by omega), hg2 s (by omega)]
    by_cases c1 : D s = bI
    · exact ifT (by unfold leE; rw [if_pos c1]) (no (impF (fun q => by omega)))
    · have hsl : D s < bI := by omega
      have hb := hp_bd hN hp hs hsl
      have h6 := hp_6 hN hp hs hsl
      have es : leE (D s) = nI (D s / 8) := if_neg c1
      have eh : hoE (D s) = nI (D s % 8) := if_neg c1
      rw [es]
      refine ifF (fun q => ?_) ⟨G, hG, _, r26, 7, g, hg, zIn_nI (by omega) (by decide), G, hG, _, r26, 7, g, hg, zIn_nI (by omega) (by decide), ?_⟩
      · rw [le_big] at q
        have := (nI_eq (by omega) (by decide)).mp q
        omega
      rw [nI_clamp (by omega), hg2 s (by omega), hg2 r (by omega), es, nI_add]
      by_cases c2 : D r = bI
      · rw [show leE (D r) = nI 1000000000 by unfold leE; rw [if_pos c2]; rfl]
        exact ifT (nI_lt (by omega) (by decide)) (yes (impT (by omega) (by rw [c2]; unfold bI; omega)))
      · have hrl : D r < bI := by omega
        have hb2 := hp_bd hN hp hr hrl
        have h62 := hp_6 hN hp hr hrl
        have er : leE (D r) = nI (D r / 8) := if_neg c2
        have erh : hoE (D r) = nI (D r % 8) := if_neg c2
        rw [er]
        refine ifB (fun c3 => yes (impT (by omega) ?_)) (fun c3 => ⟨G, hG, _, r26, 7, g, hg, zIn_nI (by omega) (by decide), ?_⟩)
        · have := (nI_ltI (by omega) (by omega)).mp c3
          omega
        · have c3' := mt (nI_ltI (a := D s / 8 + c r s) (b := D r / 8) (by omega) (by omega)).mpr c3
          rw [hg2 r (by omega), er]
          refine ifB (fun c4 => ⟨G, hG, _, r27, 7, k, hk, zIn_nI (by omega) (by decide), G, hG, _, r27, 7, k, hk, zIn_nI (by omega) (by decide), ?_⟩) (fun c4 => no (impF (fun q => ?_)))
          · have c4' := (nI_eq (by omega) (by omega)).mp c4
            rw [hk2 s (by omega), hk2 r (by omega), eh, erh, nI_1]
            refine ifB (fun c5 => no (impF (fun q => ?_))) (fun c5 => yes (impT (by omega) ?_))
            · have := (nI_leI (by omega) (by omega)).mp c5
              omega
            · have := mt (nI_leI (a := D r % 8) (b := D s % 8 + 1) (by omega) (by omega)).mpr c5
              omega
          · have : D s / 8 + c r s ≠ D r / 8 := fun w => c4 (by rw [w])
            omega
theorem cM_findsLeast (hG : h.2 139 = zO 10 G) (hR : mR G) (hm : ∃ f, h.2 140 = zI 0 115 f ∧ f 0 = nI N) (hc : ∃ f, h.2 147 = zI 0 49 f ∧ ∀ r s, r < N → s < N → f (7 * r + s) = nI (c r s)) (h148 : ∃ f, h.2 148 = zI 0 7 f) (h149 : ∃ f, h.2 149 = zI 0 7 f) (hcw : cwR c w N) (hw : wOK w) (hN : N ≤ 7) (ha : a < N)
    (K : ∀ h', mwA h' c N (bfD w N a 6) → zFr (fun z => z = 148 ∨ z = 149) h h' → Q none h') : zW (d + 2) m_Mo_findsLeast e 0 [.ref 139, .int (nI a), zD, zD, zD] [] h Q := by
  have r0 : G 0 = .ref 140 := hR.1
  have r25 : G 25 = .ref 147 := hR.2.2.2.2.2.2.2.1
  have r26 : G 26 = .ref 148 := hR.2.2.2.2.2.2.2.2.1
  have r27 : G 27 = .ref 149 := hR.2.2.2.2.2.2.2.2.2.1
  obtain ⟨st, hst, st0⟩ := hm
  have A : zFr (fun z => z = 148 ∨ z = 149) h h := zFr.rf
  -- one relaxing
  have step : ∀ r s (h1 : zH) (E : Nat → Nat) (fl : Bool), r < N → s < N → hpI w N a E → mwA h1 c N E → zFr (fun z => z = 148 ∨ z = 149) h h1 →
      (∀ h2, mwA h2 c N (rlx w E r s) → zFr (fun z => z = 148 ∨ z = 149) h h2 → zW (d + 2) m_Mo_findsLeast e 61 [.ref 139, zD, .int (b01 (fl || imp w E r s)), .int (nI r), .int (nI (s + 1))] [] h2 Q) →
      zW (d + 2) m_Mo_findsLeast e 72 [.ref 139, zD, .int (b01 fl), .int (nI r), .int (nI s)] [] h1 Q := by
    intro r s h1 E fl hr hs hpE hc1 hf1 Kn
    have hG1 : h1.2 139 = zO 10 G := by rw [hf1 _ (by decide)]; exact hG
    refine b_Mo_findsLeast_72 ⟨⟨G, hG1⟩, cM_isLess hG1 hR hc1 hcw hpE hN hr hs ⟨_, rfl, ?_⟩⟩
    rw [nI_1]
    cases ci : imp w E r s with
    | false =>
      rw [ci, Bool.or_false] at Kn
      exact ifT rfl (Kn h1 (by rw [rlx_f ci]; exact hc1) hf1)
    | true =>
      rw [ci, Bool.or_true, rlx_t ci] at Kn
      obtain ⟨i1, i2⟩ := imp_t ci
      obtain ⟨hcb, hwe⟩ := hcw r s hr hs
      have hc0 : c r s ≠ 0 := fun q => by rw [hwe, if_pos q] at i1; exact i1 rfl
      rw [if_neg hc0] at hwe
      have hrb := hpE.2.1 r
      have hsl : E s < bI := by omega
      have hb := hp_bd hN hpE hs hsl
      have h6 := hp_6 hN hpE hs hsl
      obtain ⟨⟨f, hf, hf2⟩, ⟨g, hg, hg2⟩, k, hk, hk2⟩ := id hc1
      refine ifF (by decide) ⟨G, hG1, _, r26, G, hG1, _, r26, 7, g, hg, zIn_nI (by omega) (by decide), G, hG1, _, r25, 49, f, hf, ?_⟩
      rw [ix7b]
      refine ⟨zIn_nI (by omega) (by decide), 7, g, hg, zIn_nI (by omega) (by decide), ?_⟩
      rintro h16 rfl
      refine ⟨G, (zP_ne _ _ (by decide)).trans hG1, _, r27, G, (zP_ne _ _ (by decide)).trans hG1, _, r27, 7, k, (zP_ne _ _ (by decide)).trans hk, zIn_nI (by omega) (by decide), 7, k, (zP_ne _ _ (by decide)).trans hk, zIn_nI (by omega) (by decide), ?_⟩
      rintro h25 rfl
      rw [nI_clamp (by omega), nI_clamp (by omega), nI_clamp (by omega), hg2 s (by omega), hk2 s (by omega), hf2 r s hr hs, show leE (E s) = nI (E s / 8) from if_neg (by omega), show hoE (E s) = nI (E s % 8) from if_neg (by omega), nI_add, nI_1]
      have hfr : zFr (fun z => z = 148 ∨ z = 149) h1 (zP (zP h1 148 (zI 0 7 (zU g r (nI (E s / 8 + c r s))))) 149 (zI 0 7 (zU k r (nI (E s % 8 + 1))))) := (zFr.put (Or.inl rfl)).trans (zFr.put (Or.inr rfl))
      refine Kn _ ⟨⟨f, by rw [hfr _ (by decide)]; exact hf, hf2⟩, ⟨_, (zP_ne _ _ (by decide)).trans (zP_same _ _ _), fun x hx => ?_⟩, _, zP_same _ _ _, fun x hx => ?_⟩ (hf1.trans hfr)
      · by_cases ex : x = r
        · rw [ex, zU_same, zU_same]
          unfold leE
          rw [if_neg (by omega)]
          congr 1
          omega
        · rw [zU_ne _ _ ex, zU_ne _ _ ex]; exact hg2 x hx
      · by_cases ex : x = r
        · rw [ex, zU_same, zU_same]
          unfold hoE
          rw [if_neg (by omega)]
          congr 1
          omega
        · rw [zU_ne _ _ ex, zU_ne _ _ ex]; exact hk2 x hx
  have st1 : ∀ h1, zFr (fun z => z = 148 ∨ z = 149) h h1 → h1.2 139 = zO 10 G ∧ h1.2 140 = zI 0 115 st := fun h1 hf1 => ⟨by rw [hf1 _ (by decide)]; exact hG, by rw [hf1 _ (by decide)]; exact hst⟩
  have inner : ∀ (fl : Bool) r (E : Nat → Nat), r < N → hpI w N a E →
      (∀ h2, mwA h2 c N (rlR w r E N) → zFr (fun z => z = 148 ∨ z = 149) h h2 → zW (d + 2) m_Mo_findsLeast e 48 [.ref 139, zD, .int (b01 (fl || flR w r E N)), .int (nI (r + 1)), zD] [] h2 Q) →
      ∀ j s (h1 : zH), s + j = N → mwA h1 c N (rlR w r E s) → zFr (fun z => z = 148 ∨ z = 149) h h1 → zW (d + 2) m_Mo_findsLeast e 61 [.ref 139, zD, .int (b01 (fl || flR w r E s)), .int (nI r), .int (nI s)] [] h1 Q := by
    intro fl r E hr hpE Kn j
    induction j with
    | zero =>
      intro s h1 hj hc1 hf1
      have : s = N := by omega
      subst this
      obtain ⟨hG1, hs1⟩ := st1 h1 hf1
      refine b_Mo_findsLeast_61 ⟨G, hG1, _, r0, 115, st, hs1, zi0, ?_⟩
      rw [show (0 : Int32).toNatClampNeg = 0 from rfl, st0, nI_1]
      exact ifT (Int32.le_refl _) (Kn h1 hc1 hf1)
    | succ j ih =>
      intro s h1 hj hc1 hf1
      obtain ⟨hG1, hs1⟩ := st1 h1 hf1
      refine b_Mo_findsLeast_61 ⟨G, hG1, _, r0, 115, st, hs1, zi0, ?_⟩
      rw [show (0 : Int32).toNatClampNeg = 0 from rfl, st0]
      refine ifF (nI_ge (by omega) (by omega)) (step r s h1 (rlR w r E s) _ hr (by omega) (rlR_keep (X := hpI w N a) (fun _ _ _ => hp_rlx hw hN) hr hpE s (by omega)) hc1 hf1 (fun h2 hc2 hf2 => ?_))
      rw [Bool.or_assoc]
      exact ih (s + 1) h2 (by omega) hc2 hf2
  have middle : ∀ k, (∀ h2, mwA h2 c N (bfD w N a (k + 1)) → zFr (fun z => z = 148 ∨ z = 149) h h2 → zW (d + 2) m_Mo_findsLeast e 40 [.ref 139, zD, .int (b01 (flA w N (bfD w N a k) N)), zD, zD] [] h2 Q) →
      ∀ j r (h1 : zH), r + j = N → mwA h1 c N (rlA w N (bfD w N a k) r) → zFr (fun z => z = 148 ∨ z = 149) h h1 → zW (d + 2) m_Mo_findsLeast e 48 [.ref 139, zD, .int (b01 (flA w N (bfD w N a k) r)), .int (nI r), zD] [] h1 Q := by
    intro k Kn j
    induction j with
    | zero =>
      intro r h1 hj hc1 hf1
      have : r = N := by omega
      subst this
      obtain ⟨hG1, hs1⟩ := st1 h1 hf1
      refine b_Mo_findsLeast_48 ⟨G, hG1, _, r0, 115, st, hs1, zi0, ?_⟩
      rw [show (0 : Int32).toNatClampNeg = 0 from rfl, st0]
      exact ifT (Int32.le_refl _) (Kn h1 hc1 hf1)
    | succ j ih =>
      intro r h1 hj hc1 hf1
      obtain ⟨hG1, hs1⟩ := st1 h1 hf1
      refine b_Mo_findsLeast_48 ⟨G, hG1, _, r0, 115, st, hs1, zi0, ?_⟩
      rw [show (0 : Int32).toNatClampNeg = 0 from rfl, st0]
      have := inner (flA w N (bfD w N a k) r) r (rlA w N (bfD w N a k) r) (by omega) (rlA_keep (X := hpI w N a) (fun _ _ _ => hp_rlx hw hN) (hp_bf hw hN ha k) r (by omega)) (fun h2 hc2 hf2 => ih (r + 1) h2 (by omega) hc2 hf2) N 0 h1 (by omega) hc1 hf1
      rw [show flR w r (rlA w N (bfD w N a k) r) 0 = false from rfl, Bool.or_false] at this
      exact ifF (nI_ge (by omega) (by omega)) this
  have outer : ∀ j k (b : Bool) (h1 : zH), k + j = 7 → (b = false → bfD w N a k = bfD w N a 6) → (k = 7 → b = false) → mwA h1 c N (bfD w N a k) → zFr (fun z => z = 148 ∨ z = 149) h h1 → zW (d + 2) m_Mo_findsLeast e 40 [.ref 139, zD, .int (b01 b), zD, zD] [] h1 Q := by
    intro j
    induction j with
    | zero =>
      intro k b h1 hj hb hb7 hc1 hf1
      have hbf := hb7 (by omega)
      rw [hb hbf] at hc1
      rw [hbf]
      exact b_Mo_findsLeast_40 (ifT rfl (K h1 hc1 hf1))
    | succ j ih =>
      intro k b h1 hj hb hb7 hc1 hf1
      refine b_Mo_findsLeast_40 ?_
      cases b with
      | false =>
        rw [hb rfl] at hc1
        exact ifT rfl (K h1 hc1 hf1)
      | true =>
        refine ifF (by decide) (middle k (fun h2 hc2 hf2 => ?_) N 0 h1 (by omega) hc1 hf1)
        refine ih (k + 1) _ h2 (by omega) (fun q => ?_) (fun q => ?_) hc2 hf2
        · rw [show bfD w N a (k + 1) = bfD w N a k from (flA_f N q).1]
          exact bf_end hN ha q
        · have : k = 6 := by omega
          rw [this]
          exact bf_fl hN ha
  -- the start
  obtain ⟨g0, hg0⟩ := h148
  obtain ⟨k0, hk0⟩ := h149
  refine b_Mo_findsLeast_0 ?_
  have init : ∀ j u (h1 : zH) (g k : Nat → Int32), u + j = 7 → h1.2 148 = zI 0 7 g → h1.2 149 = zI 0 7 k → (∀ x, x < u → g x = leE (zU (fun _ => bI) a 0 x)) → (∀ x, x < u → k x = hoE (zU (fun _ => bI) a 0 x)) → zFr (fun z => z = 148 ∨ z = 149) h h1 → zW (d + 2) m_Mo_findsLeast e 2 [.ref 139, .int (nI a), .int (nI u), zD, zD] [] h1 Q := by
    intro j
    induction j with
    | zero =>
      intro u h1 g k hj hg hk hg2 hk2 hf1
      have : u = 7 := by omega
      subst this
      refine b_Mo_findsLeast_2 (ifT (show nI 7 ≤ nI 7 from Int32.le_refl _) ?_)
      obtain ⟨f, hf, hf2⟩ := hc
      exact outer 7 0 true h1 (by omega) (fun q => absurd q (by decide)) (fun q => absurd q (by decide)) ⟨⟨f, by rw [hf1 _ (by decide)]; exact hf, hf2⟩, ⟨g, hg, hg2⟩, k, hk, hk2⟩ hf1
    | succ j ih =>
      intro u h1 g k hj hg hk hg2 hk2 hf1
      obtain ⟨hG1, hs1⟩ := st1 h1 hf1
      have go : ∀ v, v = leE (zU (fun _ => bI) a 0 u) → (0 : Int32) = hoE (zU (fun _ => bI) a 0 u) → zW (d + 2) m_Mo_findsLeast e 2 [.ref 139, .int (nI a), .int (nI (u + 1)), zD, zD] [] (zP (zP h1 148 (zI 0 7 (zU g u v))) 149 (zI 0 7 (zU k u 0))) Q := fun v hv h0 => by
        refine ih (u + 1) _ (zU g u v) (zU k u 0) (by omega) ((zP_ne _ _ (by decide)).trans (zP_same _ _ _)) (zP_same _ _ _) (fun x hx => ?_) (fun x hx => ?_) (hf1.trans ((zFr.put (Or.inl rfl)).trans (zFr.put (Or.inr rfl))))
        · by_cases ex : x = u
          · rw [ex, zU_same]; exact hv
          · rw [zU_ne _ _ ex]; exact hg2 x (by omega)
        · by_cases ex : x = u
          · rw [ex, zU_same]; exact h0
          · rw [zU_ne _ _ ex]; exact hk2 x (by omega)
      refine b_Mo_findsLeast_2 (ifF (show ¬ nI 7 ≤ nI u from nI_ge (by omega) (by decide)) ⟨G, hG1, _, r26, ifB (fun c1 => ⟨7, g, hg, zIn_nI (by omega) (by decide), ?_⟩) (fun c1 => ⟨7, g, hg, zIn_nI (by omega) (by decide), ?_⟩)⟩)
      · have eu := (nI_eq (by omega) (by omega)).mp c1
        rintro h5 rfl
        refine ⟨G, (zP_ne _ _ (by decide)).trans hG1, _, r27, 7, k, (zP_ne _ _ (by decide)).trans hk, zIn_nI (by omega) (by decide), ?_⟩
        rintro h10 rfl
        rw [nI_1, nI_clamp (by omega)]
        exact go 0 (by rw [eu, zU_same]; rfl) (by rw [eu, zU_same]; rfl)
      · have eu : u ≠ a := fun q => c1 (by rw [q])
        rintro h13 rfl
        refine ⟨G, (zP_ne _ _ (by decide)).trans hG1, _, r27, 7, k, (zP_ne _ _ (by decide)).trans hk, zIn_nI (by omega) (by decide), ?_⟩
        rintro h18 rfl
        rw [nI_1, nI_clamp (by omega)]
        exact go _ (by rw [zU_ne _ _ eu]; exact (if_pos rfl).symm) (by rw [zU_ne _ _ eu]; exact (if_pos rfl).symm)
  exact init 7 0 h g0 k0 rfl hg0 hk0 (fun x hx => absurd hx (Nat.not_lt_zero x)) (fun x hx => absurd hx (Nat.not_lt_zero x)) zFr.rf
end C
