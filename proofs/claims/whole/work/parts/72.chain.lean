/-! The class answers as the Model does: cost, chain, taken, there -/
section F
variable {A1 A2 : Nat → Prop} {h h1 h2 : zH} {k : Nat} {B : bkT} {t : tpT} {I : imT} {H : shT} {f o o' : Int32}
theorem AB_t (hC : CA h k B t I H f o) (hM : MA h B t I H f o) (iB : bkI B) (iT : tpI t) (iI : imI I) (iH : shI H) (f1 : zFr A1 h h1) (r1 : ∀ z, A1 z → z = 8 ∨ (19 ≤ z ∧ z < 120) ∨ z = 123) (e8 : x8 h1 f o') (w : xW h1 k B) (e123 : ∃ F, h1.2 123 = zO 7 F) (f2 : zFr A2 h1 h2) (r2 : ∀ z, A2 z → z = 139 ∨ (145 ≤ z ∧ z < 151)) (y : y0 h2 t f o') (ar : mAr h2) : AB h2 (k + 1) ∧ zFr up8 h h2 := by
  obtain ⟨c1, c2, c3, ⟨⟨x, j, d1⟩, -⟩, c5, c6⟩ := id hC
  have n : ∀ z, ¬ (z = 8 ∨ (19 ≤ z ∧ z < 120) ∨ z = 123) → ¬ A1 z := fun z hz q => hz (r1 z q)
  have hM1 := hM.fr f1 (fun z hz => by have := r1 z hz; omega)
  refine ⟨⟨B, t, I, H, f, o', CA.fr (CA.up (k := k) ⟨e8, c2.fr f1 (fun z a b => n z (by omega)), w, ⟨⟨x, j, d1.fr f1 (n _ (by decide)) (n _ (by decide)) (n _ (by decide))⟩, e123⟩, c5.fr f1 (fun z a b _ => n z (by omega)), c6.fr f1 (fun z a => n z (by omega))⟩ (by omega)) f2 (fun z hz => by have := r2 z hz; omega), MA.sc hM1 f2 r2 y ar, iB, iT, iI, iH⟩, ?_⟩
  exact (f1.sub (fun z hz => by have := r1 z hz; show 8 ≤ z; omega)).trans (f2.sub (fun z hz => by have := r2 z hz; show 8 ≤ z; omega))
end F
theorem leE_ne {x : Nat} (h : x ≤ 1216662) : ¬ leE x = 1000000000 := by
  unfold leE bI
  rw [if_neg (by omega), le_big, nI_eq (by omega) (by omega)]
  omega
section C
variable {d d2 : Nat} {e : Nat × Nat} {h : zH} {Q : zQ} {k : Nat}
/-- costs, and how far each clock is from one -/
theorem cM_fcl {P : zH → Prop} {G : Nat → Value} {N a : Nat} {l q : Int32} {S : Nat → Int32} (hG : h.2 139 = zO 10 G) (gR : mR G) (hm : msA h (nI N) l q S) (hAr : mAr h) (hS : StK S) (hq : 2 ≤ q) (hl : 0 ≤ l) (hl2 : l ≤ 99) (hN : N ≤ 7) (ha : a < N)
    (K : ∀ h' G', h'.2 139 = zO 10 G' → mGf G G' → mAr h' → (∃ g, h'.2 148 = zI 0 7 g ∧ ∀ r, r < 7 → g r = leE (wD S l q N a r)) → zFr (fun z => z = 139 ∨ (145 ≤ z ∧ z < 151)) h h' → P h') :
    zW (d + 5) m_Mo_findsCosts e 0 [.ref 139, zD, zD] [] h (fun r7 h8 => r7 = none ∧ ((∃ F19, h8.2 139 = zO 10 F19) ∧ zW (d2 + 2) m_Mo_findsLeast h8.1 0 [.ref 139, .int (nI a), zD, zD, zD] [] h8 (fun r9 h10 => r9 = none ∧ P h10))) := by
  refine cM_findsCosts hG gR hm hAr.1 hAr.2.1 hAr.2.2.1 hS hq hl hl2 hN (fun h3 hI3 => ⟨rfl, ?_⟩)
  obtain ⟨⟨G3, hG3, gg⟩, -, -, ⟨gc, hgc, hgc2⟩, hf3⟩ := id hI3
  have ar3 := mAr_c hAr hI3
  have cwr : cwR (csN S l q) (wtW S l q N) N := fun a b ha hb => ⟨cs_bd hS hq hl hl2 (by omega) (by omega), by unfold wtW; rw [if_pos ⟨ha, hb⟩]; rfl⟩
  refine ⟨⟨G3, hG3⟩, cM_findsLeast (c := csN S l q) (w := wtW S l q N) hG3 (gg.R gR) ?_ ⟨gc, hgc, fun a b ha hb => hgc2 a b ha hb (Or.inl ha)⟩ ar3.2.2.2.1 ar3.2.2.2.2.1 cwr (wt_ok hS hq hl hl2 hN) hN ha (fun h4 hc4 hf4 => ⟨rfl, ?_⟩)⟩
  · obtain ⟨s', hs', s0', -⟩ := hm.fr hf3 (by decide)
    exact ⟨s', hs', s0'⟩
  · obtain ⟨-, ⟨g8, hg8, hg82⟩, g9, hg9, -⟩ := hc4
    have hf34 : zFr (fun z => z = 139 ∨ (145 ≤ z ∧ z < 151)) h h4 := (hf3.sub (fun z hz => by have hz : z = 139 ∨ z = 145 ∨ z = 146 ∨ z = 147 := hz; show z = 139 ∨ (145 ≤ z ∧ z < 151); omega)).trans (hf4.sub (fun z hz => by have hz : z = 148 ∨ z = 149 := hz; show z = 139 ∨ (145 ≤ z ∧ z < 151); omega))
    refine K h4 G3 ((hf4 _ (by decide)).trans hG3) gg ?_ ⟨g8, hg8, hg82⟩ hf34
    obtain ⟨a1, a2, a3, -, -, a6⟩ := ar3
    refine ⟨?_, ?_, ?_, ⟨g8, hg8⟩, ⟨g9, hg9⟩, ?_⟩
    · rw [hf4 _ (by decide)]; exact a1
    · rw [hf4 _ (by decide)]; exact a2
    · rw [hf4 _ (by decide)]; exact a3
    · rw [hf4 _ (by decide)]; exact a6
theorem cM_reachesOne {G : Nat → Value} {N a r : Nat} {l q : Int32} {S : Nat → Int32} (hG : h.2 139 = zO 10 G) (gR : mR G) (hm : msA h (nI N) l q S) (hAr : mAr h) (hS : StK S) (hq : 2 ≤ q) (hl : 0 ≤ l) (hl2 : l ≤ 99) (hN : N ≤ 7) (hr : r < N) (ha : a < N)
    (K1 : wD S l q N a r < bI → ∀ h' G', h'.2 139 = zO 10 G' → mGf G G' → mAr h' → zFr (fun z => z = 139 ∨ (145 ≤ z ∧ z < 151)) h h' → Q (some (.int 1)) h')
    (K0 : wD S l q N a r = bI → ∀ h' G', h'.2 139 = zO 10 G' → mGf G G' → mAr h' → zFr (fun z => z = 139 ∨ (145 ≤ z ∧ z < 151)) h h' → Q (some (.int 0)) h') : zW (d + 6) m_Mo_reachesOne e 0 [.ref 139, .int (nI r), .int (nI a)] [] h Q := by
  have hp := hp_bf (wt_ok (S := S) (li := l) (le := q) hS hq hl hl2 hN) hN ha 6
  refine b_Mo_reachesOne_0 ⟨⟨G, hG⟩, cM_fcl hG gR hm hAr hS hq hl hl2 hN ha (fun h1 G1 hG1 gg ar1 hg hf1 => ?_)⟩
  obtain ⟨g, hg, hg2⟩ := hg
  refine ⟨G1, hG1, _, (gg.R gR).2.2.2.2.2.2.2.2.1, 7, g, hg, zIn_nI (by omega) (by decide), ?_⟩
  rw [nI_clamp (by omega), hg2 r (by omega)]
  by_cases c : wD S l q N a r = bI
  · exact ifT (by unfold leE; rw [if_pos c]) ⟨by decide, K0 c h1 G1 hG1 gg ar1 hf1⟩
  · have hb := hp.2.1 r
    have hlt : wD S l q N a r < bI := by unfold wD at c ⊢; omega
    exact ifF (leE_ne (hp_bd hN hp hr hlt)) ⟨by decide, K1 hlt h1 G1 hG1 gg ar1 hf1⟩
theorem P_cost (hA : AB h k) (hk : k < 2 ^ 29) (x y : Int32) : PRi (d + 9) h k m_BL_cost [.ref 8, .int x, .int y] m_Mo_cost [.ref 139, .int x, .int y] := by
  obtain ⟨B, t, I, H, f, o, hC, hM, iB, iT, iI, iH⟩ := id hA
  obtain ⟨⟨F, hF, hR, f10, f11⟩, -, hxW, -⟩ := id hC
  obtain ⟨hbk, ⟨nw, hnw, hw⟩, hch⟩ := id hxW
  obtain ⟨⟨G, hG, gR, g5, g10, g30⟩, hm, ⟨-, hAr, -⟩, -⟩ := id hM
  have hN := iB.1.2
  have ob : ∃ F, h.2 15 = zO 0 F := hbk.1.imp fun _ w => w.1
  have wok := wt_ok (N := B.1) iB.2.2.2 iB.2.2.1.1 iB.2.1.1 iB.2.1.2 hN
  unfold PRi
  rcases qR_dec B.1 x with ⟨r, hr, rfl⟩ | hx
  · rcases qR_dec B.1 y with ⟨s, hs, rfl⟩ | hy
    · have hp := hp_bf wok hN hs 6
      refine b_BL_cost_0 ⟨F, hF, _, hR.2.2.2.1, ob, cB_has_y hbk hN hr ⟨_, rfl, ifF (by decide) ⟨F, hF, _, hR.2.2.2.1, ob, cB_has_y hbk hN hs ⟨_, rfl, ifF (by decide) ⟨⟨F, hF⟩, cX_freshChains hF hR hbk hw hch iB.2.2.2 iB.2.2.1.1 iB.2.1.1 iB.2.1.2 (by omega) hN (fun h1 hw1 hc1 hch1 hf1 => ⟨_, rfl, hch1.1.imp fun _ w => w.1, cC_aimAt hc1 hch1.2.2.choose_spec wok hN hs (fun h2 hc2 hf2 => ⟨rfl, F, (hf2 8 (by decide)).trans ((hf1 8 (by omega)).trans hF), _, hR.2.2.2.2.1, hc2.ch.1.imp fun _ w => w.1, cC_reachesAim hc2 hp hN hr ⟨_, rfl, ?_⟩⟩)⟩)⟩⟩⟩⟩⟩
      have hf12 : zFr (fun z => 19 ≤ z ∧ z < 120) h h2 := (hf1.sub (fun z hz => by have hz : 19 ≤ z ∧ z < 119 := hz; show 19 ≤ z ∧ z < 120; omega)).trans (hf2.sub (fun z hz => by have hz : z = 117 ∨ z = 119 := hz; show 19 ≤ z ∧ z < 120; omega))
      have hw2 := hw1.fr hf2 (fun z hz w => by have hz : z = 117 ∨ z = 119 := hz; omega)
      have hF2 := (hf12 8 (by omega)).trans hF
      have hG2 := (hf12 139 (by omega)).trans hG
      have hm2 := hm.fr hf12 (by omega)
      have hAr2 := hAr.fr hf12 (fun z a b w => by have w : 19 ≤ z ∧ z < 120 := w; omega)
      have fu := hf12.sub (B := up8) (fun z hz => by have hz : 19 ≤ z ∧ z < 120 := hz; show 8 ≤ z; omega)
      have mo : ∀ {Q : zQ} {e : Nat × Nat}, (∀ h3 G3, h3.2 139 = zO 10 G3 → mR G3 → (∃ g, h3.2 148 = zI 0 7 g ∧ ∀ r, r < 7 → g r = leE (wD B.2.2.2 B.2.1 B.2.2.1 B.1 s r)) → AB h3 (k + 1) ∧ zFr up8 h h3 → ∃ F11, h3.2 139 = zO 10 F11 ∧ ∃ x12, F11 26 = Value.ref x12 ∧ (∃ n13 f14, h3.2 x12 = zI 0 n13 f14 ∧ zIn (nI r) n13 ∧ ((if (f14 (nI r).toNatClampNeg) = (1000000000 : Int32) then Q (some (Value.int (-4 : Int32))) h3 else ∃ F15, h3.2 139 = zO 10 F15 ∧ ∃ x16, F15 26 = Value.ref x16 ∧ (∃ n17 f18, h3.2 x16 = zI 0 n17 f18 ∧ zIn (nI r) n17 ∧ (Q (some (Value.int (f18 (nI r).toNatClampNeg))) h3))))) ) → zW (d + 9) m_Mo_cost e 0 [.ref 139, .int (nI r), .int (nI s)] [] h2 Q := fun w =>
        b_Mo_cost_0 ⟨⟨G, hG2⟩, mC_y hG2 gR hm2 hN hr ⟨_, rfl, ifF (by decide) ⟨⟨G, hG2⟩, mC_y hG2 gR hm2 hN hs ⟨_, rfl, ifF (by decide) ⟨⟨G, hG2⟩, cM_fcl hG2 gR hm2 hAr2 iB.2.2.2 iB.2.2.1.1 iB.2.1.1 iB.2.1.2 hN hs (fun h3 G3 hG3 gg ar3 hg hf3 => w h3 G3 hG3 (gg.R gR) hg (AB_q hC hM iB iT iI iH hf12 (fun z hz => hz) (xW_q hxW hf12 (fun z hz => hz) hnw hw2 hc2.ch) hf3 (fun z hz => hz) (y0.mf hG3 gg gR g5 g10 g30) ar3))⟩⟩⟩⟩⟩
      have hb := hp.2.1 r
      cases cd : decide (bfD (wtW B.2.2.2 B.2.1 B.2.2.1 B.1) B.1 s 6 r < bI) with
      | false =>
        have c : wD B.2.2.2 B.2.1 B.2.2.1 B.1 s r = bI := by have := of_decide_eq_false cd; unfold wD; omega
        refine ifT rfl ⟨_, rfl, fu, ⟨G, hG2⟩, mo (fun h3 G3 hG3 gR3 hg ab => ?_)⟩
        obtain ⟨g, hg, hg2⟩ := hg
        refine ⟨G3, hG3, _, gR3.2.2.2.2.2.2.2.2.1, 7, g, hg, zIn_nI (by omega) (by decide), ?_⟩
        rw [nI_clamp (by omega), hg2 r (by omega)]
        exact ifT (by unfold leE; rw [if_pos c]) ⟨rfl, ab⟩
      | true =>
        have hlt := of_decide_eq_true cd
        refine ifF (by decide) ⟨F, hF2, _, hR.2.2.2.2.1, hc2.ch.1.imp fun _ w => w.1, cC_costToAim hc2 hp hN hr hlt ⟨_, rfl, _, rfl, fu, ⟨G, hG2⟩, mo (fun h3 G3 hG3 gR3 hg ab => ?_)⟩⟩
        obtain ⟨g, hg, hg2⟩ := hg
        refine ⟨G3, hG3, _, gR3.2.2.2.2.2.2.2.2.1, 7, g, hg, zIn_nI (by omega) (by decide), ?_⟩
        rw [nI_clamp (by omega), hg2 r (by omega)]
        refine ifF (leE_ne (hp_bd hN hp hr hlt)) ⟨G3, hG3, _, gR3.2.2.2.2.2.2.2.2.1, 7, g, hg, zIn_nI (by omega) (by decide), ?_, ab⟩
        rw [hg2 r (by omega)]
        unfold leE wD
        rw [if_neg (by omega)]
    · exact b_BL_cost_0 ⟨F, hF, _, hR.2.2.2.1, ob, cB_has_y hbk hN hr ⟨_, rfl, ifF (by decide) ⟨F, hF, _, hR.2.2.2.1, ob, cB_has_n hbk hN hy ⟨_, rfl, ifT rfl ⟨_, rfl, zFr.rf, ⟨G, hG⟩, b_Mo_cost_0 ⟨⟨G, hG⟩, mC_y hG gR hm hN hr ⟨_, rfl, ifF (by decide) ⟨⟨G, hG⟩, mC_n hG gR hm hN hy ⟨_, rfl, ifT rfl ⟨rfl, hA.up, zFr.rf⟩⟩⟩⟩⟩⟩⟩⟩⟩⟩
  · exact b_BL_cost_0 ⟨F, hF, _, hR.2.2.2.1, ob, cB_has_n hbk hN hx ⟨_, rfl, ifT rfl ⟨_, rfl, zFr.rf, ⟨G, hG⟩, b_Mo_cost_0 ⟨⟨G, hG⟩, mC_n hG gR hm hN hx ⟨_, rfl, ifT rfl ⟨rfl, hA.up, zFr.rf⟩⟩⟩⟩⟩⟩
theorem y0.mg {h1 : zH} {t : tpT} {f o : Int32} {G G1 : Nat → Value} (hG : h1.2 139 = zO 10 G1) (g : mGg G G1) (gR : mR G) (g5 : G 5 = .int (nI t.1)) (g10 : G 10 = .int f) (g30 : G 30 = .int o) : y0 h1 t f o := ⟨G1, hG, g.R gR, (g 5 (by omega)).trans g5, (g 10 (by omega)).trans g10, (g 30 (by omega)).trans g30⟩
theorem P_chain (hA : AB h k) (hk : k < 2 ^ 29) (x y v : Int32) : PRi (d + 9) h k m_BL_chain [.ref 8, .int x, .int y, .int v, zD, zD] m_Mo_chain [.ref 139, .int x, .int y, .int v] := by
  obtain ⟨B, t, I, H, f, o, hC, hM, iB, iT, iI, iH⟩ := id hA
  obtain ⟨⟨F, hF, hR, f10, f11⟩, -, hxW, -⟩ := id hC
  obtain ⟨hbk, ⟨nw, hnw, hw⟩, hch⟩ := id hxW
  obtain ⟨⟨G, hG, gR, g5, g10, g30⟩, hm, ⟨-, hAr, -⟩, -⟩ := id hM
  have hN := iB.1.2
  have ob : ∃ F, h.2 15 = zO 0 F := hbk.1.imp fun _ w => w.1
  have wok := wt_ok (N := B.1) iB.2.2.2 iB.2.2.1.1 iB.2.1.1 iB.2.1.2 hN
  unfold PRi
  rcases qR_dec B.1 x with ⟨r, hr, rfl⟩ | hx
  · rcases qR_dec B.1 y with ⟨s, hs, rfl⟩ | hy
    · by_cases hv : 0 ≤ v
      · have hp := hp_bf wok hN hs 6
        obtain ⟨i, hi, rfl⟩ := nI_of (Int32.not_lt.mpr hv)
        refine b_BL_chain_0 ⟨F, hF, _, hR.2.2.2.1, ob, cB_has_y hbk hN hr ⟨_, rfl, ifF (by decide) ⟨F, hF, _, hR.2.2.2.1, ob, cB_has_y hbk hN hs ⟨_, rfl, ifF (by decide) (ifT hv ⟨⟨F, hF⟩, cX_freshChains hF hR hbk hw hch iB.2.2.2 iB.2.2.1.1 iB.2.1.1 iB.2.1.2 (by omega) hN (fun h1 hw1 hc1 hch1 hf1 => ⟨_, rfl, hch1.1.imp fun _ w => w.1, cC_aimAt hc1 hch1.2.2.choose_spec wok hN hs (fun h2 hc2 hf2 => ⟨rfl, F, (hf2 8 (by decide)).trans ((hf1 8 (by omega)).trans hF), _, hR.2.2.2.2.1, hc2.ch.1.imp fun _ w => w.1, cC_reachesAim hc2 hp hN hr ⟨_, rfl, ?_⟩⟩)⟩)⟩)⟩⟩⟩⟩
        have hf12 : zFr (fun z => 19 ≤ z ∧ z < 120) h h2 := (hf1.sub (fun z hz => by have hz : 19 ≤ z ∧ z < 119 := hz; show 19 ≤ z ∧ z < 120; omega)).trans (hf2.sub (fun z hz => by have hz : z = 117 ∨ z = 119 := hz; show 19 ≤ z ∧ z < 120; omega))
        have hw2 := hw1.fr hf2 (fun z hz w => by have hz : z = 117 ∨ z = 119 := hz; omega)
        have hF2 := (hf12 8 (by omega)).trans hF
        have hG2 := (hf12 139 (by omega)).trans hG
        have hm2 := hm.fr hf12 (by omega)
        have hAr2 := hAr.fr hf12 (fun z a b w => by have w : 19 ≤ z ∧ z < 120 := w; omega)
        have fu := hf12.sub (B := up8) (fun z hz => by have hz : 19 ≤ z ∧ z < 120 := hz; show 8 ≤ z; omega)
        have xw2 := xW_q hxW hf12 (fun z hz => hz) hnw hw2 hc2.ch
        have hb := hp.2.1 r
        cases cd : decide (bfD (wtW B.2.2.2 B.2.1 B.2.2.1 B.1) B.1 s 6 r < bI) with
        | false =>
          have c : wD B.2.2.2 B.2.1 B.2.2.1 B.1 s r = bI := by have := of_decide_eq_false cd; unfold wD; omega
          refine ifT rfl ⟨_, rfl, fu, ⟨G, hG2⟩, b_Mo_chain_0 ⟨⟨G, hG2⟩, mC_y hG2 gR hm2 hN hr ⟨_, rfl, ifF (by decide) ⟨⟨G, hG2⟩, mC_y hG2 gR hm2 hN hs ⟨_, rfl, ifF (by decide) (ifT hv ⟨⟨G, hG2⟩, cM_findsChain hG2 gR hm2 hAr2 iB.2.2.2 iB.2.2.1.1 iB.2.1.1 iB.2.1.2 hN hr hs (fun _ h3 G3 hG3 gg g29 ar3 hf3 => ⟨rfl, G3, hG3, _, g29, ifT hv ⟨rfl, ?_⟩⟩) (fun w => by omega)⟩)⟩⟩⟩⟩⟩
          exact AB_q hC hM iB iT iI iH hf12 (fun z hz => hz) xw2 hf3 (fun z hz => by have hz : z = 139 ∨ (145 ≤ z ∧ z ≤ 150) := hz; omega) (y0.mg hG3 gg gR g5 g10 g30) ar3
        | true =>
          have hlt := of_decide_eq_true cd
          have h6 := hp_6 hN hp hr hlt
          refine ifF (by decide) ⟨F, hF2, _, hR.2.2.2.2.1, hc2.ch.1.imp fun _ w => w.1, cC_hopsToAim hc2 hp hN hr hlt ⟨_, rfl, ?_⟩⟩
          have mo : ∀ {Q : zQ} {e : Nat × Nat}, (∀ h3 G3, h3.2 139 = zO 10 G3 → mR G3 → G3 29 = .int (nI (wD B.2.2.2 B.2.1 B.2.2.1 B.1 s r % 8 + 1)) → (∃ y, h3.2 150 = zI 0 7 y ∧ ∀ i, i ≤ wD B.2.2.2 B.2.1 B.2.2.1 B.1 s r % 8 → y i = nI (wkN (wtW B.2.2.2 B.2.1 B.2.2.1 B.1) (wD B.2.2.2 B.2.1 B.2.2.1 B.1 s) B.1 r i)) → AB h3 (k + 1) ∧ zFr up8 h h3 → ∃ F9, h3.2 139 = zO 10 F9 ∧ ∃ x10, F9 29 = Value.int x10 ∧ ((if x10 ≤ nI i then Q (some (Value.int (-4 : Int32))) h3 else ∃ F11, h3.2 139 = zO 10 F11 ∧ ∃ x12, F11 28 = Value.ref x12 ∧ (∃ n13 f14, h3.2 x12 = zI 0 n13 f14 ∧ zIn (nI i) n13 ∧ (Q (some (Value.int (f14 (nI i).toNatClampNeg))) h3))))) → zW (d + 9) m_Mo_chain e 0 [.ref 139, .int (nI r), .int (nI s), .int (nI i)] [] h2 Q := fun w =>
            b_Mo_chain_0 ⟨⟨G, hG2⟩, mC_y hG2 gR hm2 hN hr ⟨_, rfl, ifF (by decide) ⟨⟨G, hG2⟩, mC_y hG2 gR hm2 hN hs ⟨_, rfl, ifF (by decide) (ifT hv ⟨⟨G, hG2⟩, cM_findsChain hG2 gR hm2 hAr2 iB.2.2.2 iB.2.2.1.1 iB.2.1.1 iB.2.1.2 hN hr hs (fun w => by unfold wD at w; omega) (fun _ h3 G3 hG3 gg g29 ar3 hy hf3 => ⟨rfl, w h3 G3 hG3 (gg.R gR) g29 hy (AB_q hC hM iB iT iI iH hf12 (fun z hz => hz) xw2 hf3 (fun z hz => by have hz : z = 139 ∨ (145 ≤ z ∧ z ≤ 150) := hz; omega) (y0.mg hG3 gg gR g5 g10 g30) ar3)⟩)⟩)⟩⟩⟩⟩
          refine ifB (fun c => ?_) (fun c => ⟨_, rfl, fu, ⟨G, hG2⟩, mo (fun h3 G3 hG3 gR3 g29 hy ab => ⟨G3, hG3, _, g29, ifT ?_ ⟨rfl, ab⟩⟩)⟩)
          · have ci := (nI_leI (a := i) (b := bfD (wtW B.2.2.2 B.2.1 B.2.2.1 B.1) B.1 s 6 r % 8) hi (by omega)).mp c
            refine cX_chain68 hF2 hR hc2 iB.2.2.2 iB.2.2.1.1 iB.2.1.1 iB.2.1.2 hN hr hs hlt ci ⟨_, rfl, fu, ⟨G, hG2⟩, mo (fun h3 G3 hG3 gR3 g29 hy ab => ⟨G3, hG3, _, g29, ifF ?_ ?_⟩)⟩
            · exact nI_ge (by unfold wD; omega) (by unfold wD; omega)
            · obtain ⟨yy, hyy, hy2⟩ := hy
              refine ⟨G3, hG3, _, gR3.2.2.2.2.2.2.2.2.2.2.1, 7, yy, hyy, zIn_nI (by omega) (by decide), ?_, ab⟩
              rw [nI_clamp hi, hy2 i ci]
              rfl
          · have ci := mt (nI_leI (a := i) (b := bfD (wtW B.2.2.2 B.2.1 B.2.2.1 B.1) B.1 s 6 r % 8) hi (by omega)).mpr c
            exact nI_le (by unfold wD; omega) hi
      · exact b_BL_chain_0 ⟨F, hF, _, hR.2.2.2.1, ob, cB_has_y hbk hN hr ⟨_, rfl, ifF (by decide) ⟨F, hF, _, hR.2.2.2.1, ob, cB_has_y hbk hN hs ⟨_, rfl, ifF (by decide) (ifF hv ⟨_, rfl, zFr.rf, ⟨G, hG⟩, b_Mo_chain_0 ⟨⟨G, hG⟩, mC_y hG gR hm hN hr ⟨_, rfl, ifF (by decide) ⟨⟨G, hG⟩, mC_y hG gR hm hN hs ⟨_, rfl, ifF (by decide) (ifF hv ⟨rfl, hA.up, zFr.rf⟩)⟩⟩⟩⟩⟩)⟩⟩⟩⟩
    · exact b_BL_chain_0 ⟨F, hF, _, hR.2.2.2.1, ob, cB_has_y hbk hN hr ⟨_, rfl, ifF (by decide) ⟨F, hF, _, hR.2.2.2.1, ob, cB_has_n hbk hN hy ⟨_, rfl, ifT rfl ⟨_, rfl, zFr.rf, ⟨G, hG⟩, b_Mo_chain_0 ⟨⟨G, hG⟩, mC_y hG gR hm hN hr ⟨_, rfl, ifF (by decide) ⟨⟨G, hG⟩, mC_n hG gR hm hN hy ⟨_, rfl, ifT rfl ⟨rfl, hA.up, zFr.rf⟩⟩⟩⟩⟩⟩⟩⟩⟩⟩
  · exact b_BL_chain_0 ⟨F, hF, _, hR.2.2.2.1, ob, cB_has_n hbk hN hx ⟨_, rfl, ifT rfl ⟨_, rfl, zFr.rf, ⟨G, hG⟩, b_Mo_chain_0 ⟨⟨G, hG⟩, mC_n hG gR hm hN hx ⟨_, rfl, ifT rfl ⟨rfl, hA.up, zFr.rf⟩⟩⟩⟩⟩⟩
end C
