/-! The walk along THE CHAIN -/
def nxS (w : Nat → Nat → Nat) (D : Nat → Nat) (r : Nat) : Nat → Nat → Nat
  | 0, s => s
  | k + 1, s => if w r s ≠ 0 ∧ D s < bI ∧ w r s + D s = D r then s else nxS w D r k (s + 1)
def nxN (w : Nat → Nat → Nat) (D : Nat → Nat) (N r : Nat) : Nat := nxS w D r N 0
def wkN (w : Nat → Nat → Nat) (D : Nat → Nat) (N r : Nat) : Nat → Nat
  | 0 => r
  | i + 1 => nxN w D N (wkN w D N r i)
section P
variable {w : Nat → Nat → Nat} {D : Nat → Nat} {N a r s : Nat}
theorem nxS_eq : ∀ k t, s < t + k → t ≤ s → fitsN w D r s → (∀ s', s' < s → ¬ fitsN w D r s') → nxS w D r k t = s
  | 0, t, h1, h2, _, _ => by omega
  | k + 1, t, h1, h2, hf, hn => by
    show (if _ then t else nxS w D r k (t + 1)) = s
    by_cases e : t = s
    · rw [e]; exact if_pos hf
    · have hn' : ¬ (w r t ≠ 0 ∧ D t < bI ∧ w r t + D t = D r) := hn t (by omega)
      rw [if_neg hn']
      exact nxS_eq k (t + 1) (by omega) (by omega) hf hn
theorem nx_eq (hs : s < N) (hf : fitsN w D r s) (hn : ∀ s', s' < s → ¬ fitsN w D r s') : nxN w D N r = s := nxS_eq N 0 (by omega) (by omega) hf hn
theorem fit_least : ∀ s, fitsN w D r s → ∃ s0, s0 ≤ s ∧ fitsN w D r s0 ∧ ∀ s', s' < s0 → ¬ fitsN w D r s' := by
  intro s
  induction s using Nat.strongRecOn with
  | _ s ih =>
    intro h
    by_cases c : ∃ s', s' < s ∧ fitsN w D r s'
    · obtain ⟨s', h1, h2⟩ := c
      obtain ⟨s0, a1, a2, a3⟩ := ih s' h1 h2
      exact ⟨s0, by omega, a2, a3⟩
    · exact ⟨s, Nat.le_refl _, h, fun s' h1 h2 => c ⟨s', h1, h2⟩⟩
theorem nx_ok (hw : wOK w) (hN : N ≤ 7) (ha : a < N) (hr : r < N) (hra : r ≠ a) (hD : bfD w N a 6 r < bI) : nxN w (bfD w N a 6) N r < N ∧ fitsN w (bfD w N a 6) r (nxN w (bfD w N a 6) N r) ∧ ∀ s', s' < nxN w (bfD w N a 6) N r → ¬ fitsN w (bfD w N a 6) r s' := by
  obtain ⟨s, h1, h2, h3, h4⟩ := bf_next hw hN ha hr hra hD
  obtain ⟨s0, b1, b2, b3⟩ := fit_least (w := w) (D := bfD w N a 6) (r := r) s ⟨h2, h3, h4⟩
  rw [nx_eq (N := N) (by omega) b2 b3]
  exact ⟨by omega, b2, b3⟩
theorem wk_ok (hw : wOK w) (hN : N ≤ 7) (ha : a < N) (hr : r < N) (hD : bfD w N a 6 r < bI) : ∀ i, i ≤ bfD w N a 6 r % 8 → wkN w (bfD w N a 6) N r i < N ∧ bfD w N a 6 (wkN w (bfD w N a 6) N r i) < bI ∧ bfD w N a 6 (wkN w (bfD w N a 6) N r i) % 8 + i = bfD w N a 6 r % 8
  | 0, _ => ⟨hr, hD, rfl⟩
  | i + 1, hi => by
    obtain ⟨h1, h2, h3⟩ := wk_ok hw hN ha hr hD i (by omega)
    have hne : wkN w (bfD w N a 6) N r i ≠ a := fun q => by
      rw [q, (hp_bf hw hN ha 6).1] at h3
      omega
    obtain ⟨b1, b2, b3⟩ := nx_ok hw hN ha h1 hne h2
    have := bf_hop hw hN ha b1 b2.1 b2.2.1 b2.2.2
    refine ⟨b1, b2.2.1, ?_⟩
    show bfD w N a 6 (nxN w (bfD w N a 6) N (wkN w (bfD w N a 6) N r i)) % 8 + (i + 1) = _
    omega
theorem wk_end (hw : wOK w) (hN : N ≤ 7) (ha : a < N) (hr : r < N) (hD : bfD w N a 6 r < bI) {i : Nat} (hi : i ≤ bfD w N a 6 r % 8) : wkN w (bfD w N a 6) N r i = a ↔ i = bfD w N a 6 r % 8 := by
  obtain ⟨h1, h2, h3⟩ := wk_ok hw hN ha hr hD i hi
  constructor
  · intro q
    rw [q, (hp_bf hw hN ha 6).1] at h3
    omega
  · intro q
    exact bf_hop0 hw hN ha h1 h2 (by omega)
end P
section C
variable {d : Nat} {e : Nat × Nat} {h : zH} {Q : zQ} {G : Nat → Value} {c w : Nat → Nat → Nat} {N a : Nat} {r s : Nat}
/-- the Model's walk, once the first clock is put down -/
theorem cM_walk (hG : h.2 139 = zO 10 G) (hR : mR G) (hc : mwA h c N (bfD w N a 6)) (hcw : cwR c w N) (hw : wOK w) (hN : N ≤ 7) (ha : a < N) (hr : r < N) (hD : bfD w N a 6 r < bI)
    (K : ∀ h' G', h'.2 139 = zO 10 G' → (∀ k, k ≠ 29 → G' k = G k) → G' 29 = .int (nI (bfD w N a 6 r % 8 + 1)) → (∃ y, h'.2 150 = zI 0 7 y ∧ ∀ i, i ≤ bfD w N a 6 r % 8 → y i = nI (wkN w (bfD w N a 6) N r i)) → zFr (fun z => z = 139 ∨ z = 150) h h' → Q none h') :
    ∀ j i (h1 : zH) (G1 : Nat → Value) (y : Nat → Int32), i + j = bfD w N a 6 r % 8 → h1.2 139 = zO 10 G1 → (∀ k, k ≠ 29 → G1 k = G k) → G1 29 = .int (nI (i + 1)) → h1.2 150 = zI 0 7 y → (∀ i', i' ≤ i → y i' = nI (wkN w (bfD w N a 6) N r i')) → zFr (fun z => z = 139 ∨ z = 150) h h1 →
      zW (d + 1) m_Mo_findsChain e 38 [.ref 139, zD, .int (nI a), zD, zD] [] h1 Q := by
  have hp := hp_bf hw hN ha 6
  have h6 := hp_6 hN hp hr hD
  intro j
  induction j with
  | zero =>
    intro i h1 G1 y hj hG1 go g29 hy hy2 hf1
    have r28 : G1 28 = .ref 150 := (go 28 (by decide)).trans hR.2.2.2.2.2.2.2.2.2.2.1
    have ei := (wk_end hw hN ha hr hD (i := i) (by omega)).mpr (by omega)
    refine b_Mo_findsChain_38 ⟨G1, hG1, _, r28, G1, hG1, _, g29, 7, y, hy, ?_⟩
    rw [show nI (i + 1) - 1 = nI i by rw [← nI_1]; exact Int32.add_sub_cancel _ _]
    refine ⟨zIn_nI (by omega) (by decide), ?_⟩
    rw [nI_clamp (by omega), hy2 i (Nat.le_refl _), ei]
    refine ifT rfl (K h1 G1 hG1 go ?_ ⟨y, hy, fun i' hi' => hy2 i' (by omega)⟩ hf1)
    rw [g29, show i = bfD w N a 6 r % 8 by omega]
  | succ j ih =>
    intro i h1 G1 y hj hG1 go g29 hy hy2 hf1
    have hR1 : mR G1 := mR_of hR (fun k hk => go k (by omega))
    have r25 : G1 25 = .ref 147 := hR1.2.2.2.2.2.2.2.1
    have r26 : G1 26 = .ref 148 := hR1.2.2.2.2.2.2.2.2.1
    have r27 : G1 27 = .ref 149 := hR1.2.2.2.2.2.2.2.2.2.1
    have r28 : G1 28 = .ref 150 := hR1.2.2.2.2.2.2.2.2.2.2.1
    obtain ⟨u1, u2, u3⟩ := wk_ok hw hN ha hr hD i (by omega)
    have une : wkN w (bfD w N a 6) N r i ≠ a := fun q => by
      have := (wk_end hw hN ha hr hD (i := i) (by omega)).mp q
      omega
    obtain ⟨x1, x2, x3⟩ := nx_ok hw hN ha u1 une u2
    have ewk : wkN w (bfD w N a 6) N r (i + 1) = nxN w (bfD w N a 6) N (wkN w (bfD w N a 6) N r i) := rfl
    have hmi : nI (i + 1) - 1 = nI i := by rw [← nI_1]; exact Int32.add_sub_cancel _ _
    refine b_Mo_findsChain_38 ⟨G1, hG1, _, r28, G1, hG1, _, g29, 7, y, hy, ?_⟩
    rw [hmi]
    refine ⟨zIn_nI (by omega) (by decide), ?_⟩
    rw [nI_clamp (by omega), hy2 i (Nat.le_refl _)]
    refine ifF (fun q => une ((nI_eq (by omega) (by omega)).mp q)) ⟨G1, hG1, _, r28, G1, hG1, _, g29, 7, y, hy, ?_⟩
    rw [hmi]
    refine ⟨zIn_nI (by omega) (by decide), ?_⟩
    rw [nI_clamp (by omega), hy2 i (Nat.le_refl _)]
    -- found
    have found : zW (d + 1) m_Mo_findsChain e 38 [.ref 139, zD, .int (nI a), zD, zD] [] (zP (zP h1 150 (zI 0 7 (zU y (i + 1) (nI (wkN w (bfD w N a 6) N r (i + 1)))))) 139 (zO 10 (zU G1 29 (.int (nI (i + 1 + 1)))))) Q := by
      refine ih (i + 1) _ (zU G1 29 (.int (nI (i + 1 + 1)))) (zU y (i + 1) (nI (wkN w (bfD w N a 6) N r (i + 1)))) (by omega) (zP_same _ _ _) (fun k hk => by rw [zU_ne _ _ hk]; exact go k hk) rfl ((zP_ne _ _ (by decide)).trans (zP_same _ _ _)) (fun i' hi' => ?_) (hf1.trans ((zFr.put (Or.inr rfl)).trans (zFr.put (Or.inl rfl))))
      by_cases ei : i' = i + 1
      · rw [ei, zU_same]
      · rw [zU_ne _ _ ei]; exact hy2 i' (by omega)
    rw [ewk] at found
    generalize wkN w (bfD w N a 6) N r i = u at u1 u2 u3 une x1 x2 x3 found
    obtain ⟨⟨f, hf, hf2⟩, ⟨g, hg, hg2⟩, k, hk, hk2⟩ := id hc
    have hf' : h1.2 147 = zI 0 49 f := by rw [hf1 _ (by decide)]; exact hf
    have hg' : h1.2 148 = zI 0 7 g := by rw [hf1 _ (by decide)]; exact hg
    have hk' : h1.2 149 = zI 0 7 k := by rw [hf1 _ (by decide)]; exact hk
    have hub := hp_bd hN hp u1 u2
    have hu6 := hp_6 hN hp u1 u2
    have eu : leE (bfD w N a 6 u) = nI (bfD w N a 6 u / 8) := if_neg (by omega)
    have euh : hoE (bfD w N a 6 u) = nI (bfD w N a 6 u % 8) := if_neg (by omega)
    have search : ∀ m t, t + m = nxN w (bfD w N a 6) N u → zW (d + 1) m_Mo_findsChain e 68 [.ref 139, zD, .int (nI a), .int (nI u), .int (nI t)] [] h1 Q := by
      intro m
      induction m with
      | zero =>
        intro t ht
        rw [Nat.add_zero] at ht
        rw [← ht] at found x1 x2
        obtain ⟨y1, y2, y3⟩ := x2
        have htb := hp_bd hN hp x1 y2
        have ht6 := hp_6 hN hp x1 y2
        obtain ⟨hcb, hwe⟩ := hcw u t u1 x1
        have hc0 : c u t ≠ 0 := fun q => by rw [hwe, if_pos q] at y1; exact y1 rfl
        rw [if_neg hc0] at hwe
        have et : leE (bfD w N a 6 t) = nI (bfD w N a 6 t / 8) := if_neg (by omega)
        have eth : hoE (bfD w N a 6 t) = nI (bfD w N a 6 t % 8) := if_neg (by omega)
        refine b_Mo_findsChain_68 ⟨G1, hG1, _, r25, 49, f, hf', ?_⟩
        rw [ix7b]
        refine ⟨zIn_nI (by omega) (by decide), ?_⟩
        rw [nI_clamp (by omega), hf2 u t u1 x1]
        refine ifF (nI_ne0 (by omega) (by omega)) ⟨G1, hG1, _, r26, 7, g, hg', zIn_nI (by omega) (by decide), ?_⟩
        rw [nI_clamp (by omega), hg2 t (by omega), et]
        refine ifF (fun q => by rw [le_big] at q; have := (nI_eq (by omega) (by decide)).mp q; omega) (b_Mo_findsChain_95 ⟨G1, hG1, _, r26, 7, g, hg', zIn_nI (by omega) (by decide), G1, hG1, _, r25, 49, f, hf', ?_⟩)
        rw [ix7b]
        refine ⟨zIn_nI (by omega) (by decide), G1, hG1, _, r26, 7, g, hg', zIn_nI (by omega) (by decide), ?_⟩
        rw [nI_clamp (by omega), nI_clamp (by omega), nI_clamp (by omega), hg2 t (by omega), hg2 u (by omega), hf2 u t u1 x1, et, eu, nI_add]
        refine ifT (by congr 1; omega) ⟨G1, hG1, _, r27, 7, k, hk', zIn_nI (by omega) (by decide), G1, hG1, _, r27, 7, k, hk', zIn_nI (by omega) (by decide), ?_⟩
        rw [hk2 t (by omega), hk2 u (by omega), eth, euh, nI_1]
        refine ifT (by congr 1; omega) ⟨G1, hG1, _, r28, G1, hG1, _, g29, 7, y, hy, zIn_nI (by omega) (by decide), ?_⟩
        rintro h27 rfl
        refine ⟨G1, (zP_ne _ _ (by decide)).trans hG1, _, g29, G1, (zP_ne _ _ (by decide)).trans hG1, ?_⟩
        rintro h31 rfl
        rw [nI_1, nI_clamp (by omega)]
        exact found
      | succ m ihm =>
        intro t ht
        have htN : t < N := by omega
        have hno := x3 t (by omega)
        obtain ⟨hcb, hwe⟩ := hcw u t u1 htN
        have next := ihm (t + 1) (by omega)
        refine b_Mo_findsChain_68 ⟨G1, hG1, _, r25, 49, f, hf', ?_⟩
        rw [ix7b]
        refine ⟨zIn_nI (by omega) (by decide), ?_⟩
        rw [nI_clamp (by omega), hf2 u t u1 htN, nI_1]
        refine ifB (fun _ => next) (fun c0 => ⟨G1, hG1, _, r26, 7, g, hg', zIn_nI (by omega) (by decide), ?_⟩)
        have hc0 : c u t ≠ 0 := fun q => c0 (by rw [q]; rfl)
        rw [if_neg hc0] at hwe
        rw [nI_clamp (by omega), hg2 t (by omega)]
        by_cases c1 : bfD w N a 6 t = bI
        · exact ifT (by unfold leE; rw [if_pos c1]) next
        · have htl : bfD w N a 6 t < bI := by have := hp.2.1 t; omega
          have htb := hp_bd hN hp htN htl
          have ht6 := hp_6 hN hp htN htl
          have et : leE (bfD w N a 6 t) = nI (bfD w N a 6 t / 8) := if_neg (by omega)
          have eth : hoE (bfD w N a 6 t) = nI (bfD w N a 6 t % 8) := if_neg (by omega)
          have hns : ¬ (w u t + bfD w N a 6 t = bfD w N a 6 u) := fun q => hno ⟨by omega, htl, q⟩
          rw [et]
          refine ifF (fun q => by rw [le_big] at q; have := (nI_eq (by omega) (by decide)).mp q; omega) (b_Mo_findsChain_95 ⟨G1, hG1, _, r26, 7, g, hg', zIn_nI (by omega) (by decide), G1, hG1, _, r25, 49, f, hf', ?_⟩)
          rw [ix7b]
          refine ⟨zIn_nI (by omega) (by decide), G1, hG1, _, r26, 7, g, hg', zIn_nI (by omega) (by decide), ?_⟩
          rw [nI_clamp (by omega), nI_clamp (by omega), nI_clamp (by omega), hg2 t (by omega), hg2 u (by omega), hf2 u t u1 htN, et, eu, nI_add, nI_1]
          refine ifB (fun c2 => ⟨G1, hG1, _, r27, 7, k, hk', zIn_nI (by omega) (by decide), G1, hG1, _, r27, 7, k, hk', zIn_nI (by omega) (by decide), ?_⟩) (fun _ => next)
          rw [hk2 t (by omega), hk2 u (by omega), eth, euh, nI_1]
          refine ifF (fun q => ?_) next
          have c2' := (nI_eq (by omega) (by omega)).mp c2
          have q' := (nI_eq (by omega) (by omega)).mp q
          omega
    exact search _ 0 (Nat.zero_add _)
end C
