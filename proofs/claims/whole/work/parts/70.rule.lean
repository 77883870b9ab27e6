/-! The class answers as the Model does: rule, clock -/
section F
variable {A A1 A2 : Nat → Prop} {h h1 h2 : zH} {k : Nat} {B : bkT} {t : tpT} {I : imT} {H : shT} {f o o' : Int32}
theorem xW_q {nw : Nat} (w : xW h k B) (hf : zFr A h h1) (rA : ∀ z, A z → 19 ≤ z ∧ z < 120) (hnw : nw ≤ k) (hw1 : wbA h1 B.2.2.2 B.2.1 B.2.2.1 nw) (hc1 : chO h1) : xW h1 k B :=
  ⟨w.1.fr hf (fun q => by have := rA 15 q; omega) (fun q => by have := rA 16 q; omega), ⟨nw, hnw, hw1⟩, hc1⟩
theorem AB_q (hC : CA h k B t I H f o) (hM : MA h B t I H f o) (iB : bkI B) (iT : tpI t) (iI : imI I) (iH : shI H) (f1 : zFr A1 h h1) (r1 : ∀ z, A1 z → 19 ≤ z ∧ z < 120) (w : xW h1 k B) (f2 : zFr A2 h1 h2) (r2 : ∀ z, A2 z → z = 139 ∨ (145 ≤ z ∧ z < 151)) (y : y0 h2 t f o) (ar : mAr h2) : AB h2 (k + 1) ∧ zFr up8 h h2 :=
  ⟨⟨B, t, I, H, f, o, CA.fr ((CA.wb hC f1 (fun z hz => by have := r1 z hz; omega) w).up (by omega)) f2 (fun z hz => by have := r2 z hz; omega), MA.sc (hM.fr f1 (fun z hz => by have := r1 z hz; omega)) f2 r2 y ar, iB, iT, iI, iH⟩,
   (f1.sub (fun z hz => by have := r1 z hz; show 8 ≤ z; omega)).trans (f2.sub (fun z hz => by have := r2 z hz; show 8 ≤ z; omega))⟩
theorem mAr_2 (a : mAr h) (fr : zFr (fun z => z = 139 ∨ z = 145 ∨ z = 146) h h1) (p1 : ∃ p, h1.2 145 = zI 1 16 p) (p2 : ∃ o, h1.2 146 = zI 0 16 o) : mAr h1 := by
  obtain ⟨-, -, a3, a4, a5, a6⟩ := a
  refine ⟨p1, p2, ?_, ?_, ?_, ?_⟩
  · rw [fr _ (by decide)]; exact a3
  · rw [fr _ (by decide)]; exact a4
  · rw [fr _ (by decide)]; exact a5
  · rw [fr _ (by decide)]; exact a6
theorem mAr_c {G : Nat → Value} {N : Nat} {l q : Int32} {S : Nat → Int32} {r s : Nat} (a : mAr h) (c : mcI h G N l q S h1 r s) : mAr h1 := by
  obtain ⟨-, -, -, a4, a5, a6⟩ := a
  obtain ⟨-, p1, p2, ⟨g, p3, -⟩, fr⟩ := c
  refine ⟨p1, p2, ⟨g, p3⟩, ?_, ?_, ?_⟩
  · rw [fr _ (by decide)]; exact a4
  · rw [fr _ (by decide)]; exact a5
  · rw [fr _ (by decide)]; exact a6
theorem y0.mf {G G1 : Nat → Value} (hG : h1.2 139 = zO 10 G1) (g : mGf G G1) (gR : mR G) (g5 : G 5 = .int (nI t.1)) (g10 : G 10 = .int f) (g30 : G 30 = .int o) : y0 h1 t f o := ⟨G1, hG, g.R gR, (g 5 (by omega)).trans g5, (g 10 (by omega)).trans g10, (g 30 (by omega)).trans g30⟩
end F
section C
variable {d : Nat} {e : Nat × Nat} {h : zH} {Q : zQ} {k : Nat}
theorem of4 {S : Nat → Int32} {l q : Int32} {N : Nat} : suP (ofF S l q 4) N N = cnP (kdB S l q 2) N N := by
  rw [← suP_cn]
  rfl
theorem of5 {S : Nat → Int32} {l q : Int32} {N : Nat} : suP (ofF S l q 5) N N = cnP (kdB S l q 1) N N := by
  rw [← suP_cn]
  rfl
theorem of7 {S : Nat → Int32} {l q : Int32} {N : Nat} : suP (ofF S l q 7) N N = suP (skN S l q) N N := rfl
theorem P_rule (hA : AB h k) (hk : k < 2 ^ 29) (x : Int32) : PRi (d + 9) h k m_BL_rule [.ref 8, .int x] m_Mo_rule [.ref 139, .int x] := by
  obtain ⟨B, t, I, H, f, o, hC, hM, iB, iT, iI, iH⟩ := id hA
  obtain ⟨⟨F, hF, hR, f10, f11⟩, -, hxW, -⟩ := id hC
  obtain ⟨hbk, ⟨nw, hnw, hw⟩, hch⟩ := id hxW
  obtain ⟨⟨G, hG, gR, g5, g10, g30⟩, hm, ⟨-, hAr, -⟩, -⟩ := id hM
  obtain ⟨⟨⟨W, hW, -⟩, -⟩, -⟩ := id hw
  obtain ⟨st, hst, st0, st1, st2, st3⟩ := id hm
  obtain ⟨E, hE, e0, e1, e2, -⟩ := hbk.set
  have hN := iB.1.2
  have ob : ∃ F, h.2 15 = zO 0 F := ⟨E, hE⟩
  have wf : ∀ {h1 : zH}, wbA h1 B.2.2.2 B.2.1 B.2.2.1 nw → zFr (fun z => 19 ≤ z ∧ z < 117) h h1 → xW h1 k B := fun hw1 hf1 => xW_q hxW hf1 (fun z hz => by have hz : 19 ≤ z ∧ z < 117 := hz; omega) hnw hw1 (hch.fr hf1 (fun z hz w => by have hz : 19 ≤ z ∧ z < 117 := hz; omega))
  have r19 : ∀ z, (19 ≤ z ∧ z < 117) → 19 ≤ z ∧ z < 120 := fun z hz => by omega
  have ofl : ∀ {h1 : zH} {y v : Int32} {e : Nat × Nat}, zFr (fun z => 19 ≤ z ∧ z < 117) h h1 → wbA h1 B.2.2.2 B.2.1 B.2.2.1 nw → v = nI (suP (ofF B.2.2.2 B.2.1 B.2.2.1 y) B.1 B.1) → zW (d + 8) m_Mo_ofLines e 0 [.ref 139, .int y, zD, zD, zD] [] h1 (fun r2 h2 => ∃ z, r2 = some (.int z) ∧ (some (Value.int z) = some (.int v) ∧ AB h2 (k + 1) ∧ zFr up8 h h2)) := by
    intro h1 y v e hf1 hw1 hv
    have hM1 := hM.fr hf1 (fun z hz => by have hz : 19 ≤ z ∧ z < 117 := hz; omega)
    obtain ⟨⟨G1, hG1, gR1, g51, g101, g301⟩, hm1, ⟨-, hAr1, -⟩, -⟩ := id hM1
    refine cM_ofLines hG1 gR1 hm1 hAr1.1 hAr1.2.1 iB.2.2.2 iB.2.2.1.1 hN (fun h2 G2 hG2 gg p1 p2 hf2 => ⟨_, rfl, by rw [hv], ?_⟩)
    exact AB_q hC hM iB iT iI iH hf1 r19 (wf hw1 hf1) hf2 (fun z hz => by have hz : z = 139 ∨ z = 145 ∨ z = 146 := hz; omega) (y0.mf hG2 gg gR1 g51 g101 g301) (mAr_2 hAr1 hf2 p1 p2)
  unfold PRi
  by_cases c0 : x = 0
  · subst c0
    exact b_BL_rule_0 (ifT rfl ⟨F, hF, _, hR.2.2.2.1, E, hE, _, e0, _, rfl, zFr.rf, ⟨G, hG⟩, b_Mo_rule_0 (ifT rfl ⟨G, hG, _, gR.1, 115, st, hst, zi0, congrArg (fun w => some (Value.int w)) st0, hA.up, zFr.rf⟩)⟩)
  · by_cases c1 : x = 1
    · subst c1
      exact b_BL_rule_0 (ifF c0 (ifT rfl ⟨F, hF, _, hR.2.2.2.1, ob, cB_allStamps hbk hN ⟨_, rfl, _, rfl, zFr.rf, ⟨G, hG⟩, b_Mo_rule_0 (ifF c0 (ifT rfl ⟨⟨G, hG⟩, cM_stamps hG gR hm hN ⟨_, rfl, rfl, hA.up, zFr.rf⟩⟩))⟩⟩))
    · by_cases c2 : x = 2
      · subst c2
        exact b_BL_rule_0 (ifF c0 (ifF c1 (ifT rfl ⟨F, hF, _, hR.2.2.2.1, E, hE, _, e1, _, rfl, zFr.rf, ⟨G, hG⟩, b_Mo_rule_0 (ifF c0 (ifF c1 (ifT rfl ⟨G, hG, _, gR.1, 115, st, hst, zi1, congrArg (fun w => some (Value.int w)) st1, hA.up, zFr.rf⟩)))⟩)))
      · by_cases c3 : x = 3
        · subst c3
          exact b_BL_rule_0 (ifF c0 (ifF c1 (ifF c2 (ifT rfl ⟨F, hF, _, hR.2.2.2.1, E, hE, _, e2, _, rfl, zFr.rf, ⟨G, hG⟩, b_Mo_rule_0 (ifF c0 (ifF c1 (ifF c2 (ifT rfl ⟨G, hG, _, gR.1, 115, st, hst, zi2, congrArg (fun w => some (Value.int w)) st2, hA.up, zFr.rf⟩))))⟩))))
        · by_cases c4 : x = 4
          · subst c4
            refine b_BL_rule_0 (ifF c0 (ifF c1 (ifF c2 (ifF c3 (ifT rfl ⟨F, hF, _, hR.2.2.1, ⟨W, hW⟩, cW_linesOfKind hbk hw iB.2.2.2 iB.2.2.1.1 (by omega) hN (fun h1 hw1 hf1 => ⟨_, rfl, _, rfl, hf1.sub (fun z hz => by have hz : 19 ≤ z ∧ z < 117 := hz; show 8 ≤ z; omega), ⟨G, (hf1 _ (by omega)).trans hG⟩, ?_⟩)⟩)))))
            exact b_Mo_rule_0 (ifF c0 (ifF c1 (ifF c2 (ifF c3 (ifT rfl ⟨⟨G, (hf1 _ (by omega)).trans hG⟩, ofl hf1 hw1 (by rw [of4])⟩)))))
          · by_cases c5 : x = 5
            · subst c5
              refine b_BL_rule_0 (ifF c0 (ifF c1 (ifF c2 (ifF c3 (ifF c4 (ifT rfl ⟨F, hF, _, hR.2.2.1, ⟨W, hW⟩, cW_linesOfKind hbk hw iB.2.2.2 iB.2.2.1.1 (by omega) hN (fun h1 hw1 hf1 => ⟨_, rfl, _, rfl, hf1.sub (fun z hz => by have hz : 19 ≤ z ∧ z < 117 := hz; show 8 ≤ z; omega), ⟨G, (hf1 _ (by omega)).trans hG⟩, ?_⟩)⟩))))))
              exact b_Mo_rule_0 (ifF c0 (ifF c1 (ifF c2 (ifF c3 (ifF c4 (ifT rfl ⟨⟨G, (hf1 _ (by omega)).trans hG⟩, ofl hf1 hw1 (by rw [of5])⟩))))))
            · by_cases c6 : x = 6
              · subst c6
                refine b_BL_rule_0 (ifF c0 (ifF c1 (ifF c2 (ifF c3 (ifF c4 (ifF c5 (ifT rfl ⟨⟨F, hF⟩, cX_freshChains hF hR hbk hw hch iB.2.2.2 iB.2.2.1.1 iB.2.1.1 iB.2.1.2 (by omega) hN (fun h1 hw1 hc1 hch1 hf1 => ⟨_, rfl, hch1.1.imp fun _ w => w.1, cC_reachingPairs hc1 hch1 (wt_ok iB.2.2.2 iB.2.2.1.1 iB.2.1.1 iB.2.1.2 hN) hN (fun h2 hc2 hch2 hf2 => ⟨_, rfl, _, rfl, ?_⟩)⟩)⟩)))))))
                have hf12 : zFr (fun z => 19 ≤ z ∧ z < 120) h h2 := (hf1.sub (fun z hz => by have hz : 19 ≤ z ∧ z < 119 := hz; show 19 ≤ z ∧ z < 120; omega)).trans (hf2.sub (fun z hz => by have hz : z = 117 ∨ z = 119 := hz; show 19 ≤ z ∧ z < 120; omega))
                have hw2 := hw1.fr hf2 (fun z hz w => by have hz : z = 117 ∨ z = 119 := hz; omega)
                have hM1 := hM.fr hf12 (fun z hz => by have hz : 19 ≤ z ∧ z < 120 := hz; omega)
                obtain ⟨⟨G1, hG1, gR1, g51, g101, g301⟩, hm1, ⟨-, hAr1, -⟩, -⟩ := id hM1
                refine ⟨hf12.sub (fun z hz => by have hz : 19 ≤ z ∧ z < 120 := hz; show 8 ≤ z; omega), ⟨G1, hG1⟩, b_Mo_rule_0 (ifF c0 (ifF c1 (ifF c2 (ifF c3 (ifF c4 (ifF c5 (ifT rfl ⟨⟨G1, hG1⟩, cM_reachable hG1 gR1 hm1 hAr1 iB.2.2.2 iB.2.2.1.1 iB.2.1.1 iB.2.1.2 hN (fun h3 G3 hG3 gg ar3 hf3 => ⟨_, rfl, rfl, ?_⟩)⟩)))))))⟩
                exact AB_q hC hM iB iT iI iH hf12 (fun z hz => hz) (xW_q hxW hf12 (fun z hz => hz) hnw hw2 hch2) hf3 (fun z hz => by have hz : z = 139 ∨ (145 ≤ z ∧ z ≤ 150) := hz; omega) (y0.mf hG3 gg gR1 g51 g101 g301) ar3
              · by_cases c7 : x = 7
                · subst c7
                  refine b_BL_rule_0 (ifF c0 (ifF c1 (ifF c2 (ifF c3 (ifF c4 (ifF c5 (ifF c6 (ifT rfl ⟨F, hF, _, hR.2.2.1, ⟨W, hW⟩, cW_allStrikes hbk hw iB.2.2.2 iB.2.2.1.1 (by omega) hN (fun h1 hw1 hf1 => ⟨_, rfl, _, rfl, hf1.sub (fun z hz => by have hz : 19 ≤ z ∧ z < 117 := hz; show 8 ≤ z; omega), ⟨G, (hf1 _ (by omega)).trans hG⟩, ?_⟩)⟩))))))))
                  exact b_Mo_rule_0 (ifF c0 (ifF c1 (ifF c2 (ifF c3 (ifF c4 (ifF c5 (ifF c6 (ifT rfl ⟨⟨G, (hf1 _ (by omega)).trans hG⟩, ofl hf1 hw1 (by rw [of7])⟩))))))))
                · by_cases c8 : x = 8
                  · subst c8
                    exact b_BL_rule_0 (ifF c0 (ifF c1 (ifF c2 (ifF c3 (ifF c4 (ifF c5 (ifF c6 (ifF c7 (ifT rfl ⟨F, hF, _, hR.2.2.2.1, ob, cB_unheard hbk hN ⟨_, rfl, _, rfl, zFr.rf, ⟨G, hG⟩, b_Mo_rule_0 (ifF c0 (ifF c1 (ifF c2 (ifF c3 (ifF c4 (ifF c5 (ifF c6 (ifF c7 (ifT rfl ⟨⟨G, hG⟩, cM_unheard hG gR hm hN ⟨_, rfl, rfl, hA.up, zFr.rf⟩⟩)))))))))⟩⟩)))))))))
                  · exact b_BL_rule_0 (ifF c0 (ifF c1 (ifF c2 (ifF c3 (ifF c4 (ifF c5 (ifF c6 (ifF c7 (ifF c8 ⟨_, rfl, zFr.rf, ⟨G, hG⟩, b_Mo_rule_0 (ifF c0 (ifF c1 (ifF c2 (ifF c3 (ifF c4 (ifF c5 (ifF c6 (ifF c7 (ifF c8 ⟨rfl, hA.up, zFr.rf⟩)))))))))⟩)))))))))
theorem P_clock (hA : AB h k) (hk : k < 2 ^ 29) (x y : Int32) : PRi (d + 9) h k m_BL_clock [.ref 8, .int x, .int y] m_Mo_clock [.ref 139, .int x, .int y] := by
  obtain ⟨B, t, I, H, f, o, hC, hM, iB, iT, iI, iH⟩ := id hA
  obtain ⟨⟨F, hF, hR, f10, f11⟩, -, hxW, -⟩ := id hC
  obtain ⟨hbk, ⟨nw, hnw, hw⟩, hch⟩ := id hxW
  obtain ⟨⟨G, hG, gR, g5, g10, g30⟩, hm, ⟨-, hAr, -⟩, -⟩ := id hM
  obtain ⟨⟨⟨W, hW, -⟩, -⟩, -⟩ := id hw
  have hN := iB.1.2
  have ob : ∃ F, h.2 15 = zO 0 F := hbk.1.imp fun _ w => w.1
  have wok := wt_ok (N := B.1) iB.2.2.2 iB.2.2.1.1 iB.2.1.1 iB.2.1.2 hN
  have wf : ∀ {h1 : zH}, wbA h1 B.2.2.2 B.2.1 B.2.2.1 nw → zFr (fun z => 19 ≤ z ∧ z < 117) h h1 → xW h1 k B := fun hw1 hf1 => xW_q hxW hf1 (fun z hz => by have hz : 19 ≤ z ∧ z < 117 := hz; omega) hnw hw1 (hch.fr hf1 (fun z hz w => by have hz : 19 ≤ z ∧ z < 117 := hz; omega))
  have r19 : ∀ z, (19 ≤ z ∧ z < 117) → 19 ≤ z ∧ z < 120 := fun z hz => by omega
  unfold PRi
  rcases qR_dec B.1 x with ⟨r, hr, rfl⟩ | hx
  · have mo : ∀ {h1 : zH} {Q : zQ} {e : Nat × Nat} {K : Prop} {j : Nat}, j ≤ 3 → y = nI j → h1.2 139 = zO 10 G → msA h1 (nI B.1) B.2.1 B.2.2.1 B.2.2.2 → (if y = 0 then (∃ F10, h1.2 139 = zO 10 F10) ∧ zW (d + 8) m_Mo_stampsOf h1.1 0 [Value.ref 139, Value.int (nI r), zD, zD] [] h1 (fun r7 h8 => ∃ x9, r7 = some (Value.int x9) ∧ (Q (some (Value.int x9)) h8)) else (if (3 : Int32) ≤ y then (∃ F17, h1.2 139 = zO 10 F17) ∧ zW (d + 8) m_Mo_findsCosts h1.1 0 [Value.ref 139, zD, zD] [] h1 (fun r11 h12 => r11 = none ∧ ((∃ F16, h12.2 139 = zO 10 F16) ∧ zW (d + 8) m_Mo_reaches h12.1 0 [Value.ref 139, Value.int (nI r), zD, zD] [] h12 (fun r13 h14 => ∃ x15, r13 = some (Value.int x15) ∧ (Q (some (Value.int x15)) h14)))) else (if y = (1 : Int32) then (∃ F21, h1.2 139 = zO 10 F21) ∧ zW (d + 8) m_Mo_goodOf h1.1 0 [Value.ref 139, Value.int (nI r), Value.int (1 : Int32), zD, zD] [] h1 (fun r18 h19 => ∃ x20, r18 = some (Value.int x20) ∧ (Q (some (Value.int x20)) h19)) else (∃ F25, h1.2 139 = zO 10 F25) ∧ zW (d + 8) m_Mo_goodOf h1.1 0 [Value.ref 139, Value.int (nI r), Value.int (0 : Int32), zD, zD] [] h1 (fun r22 h23 => ∃ x24, r22 = some (Value.int x24) ∧ (Q (some (Value.int x24)) h23))))) → zW (d + 9) m_Mo_clock e 0 [.ref 139, .int (nI r), .int y] [] h1 Q := by
      intro h1 Q e K j hj hy hG1 hm1 w
      subst hy
      exact b_Mo_clock_0 ⟨⟨G, hG1⟩, mC_y hG1 gR hm1 hN hr ⟨_, rfl, ifF (by decide) (mR_y (N := 3) (hi := 3) rfl rfl rfl (by decide) hj ⟨_, rfl, ifF (by decide) w⟩)⟩⟩
    by_cases c0 : y = 0
    · refine b_BL_clock_0 ⟨F, hF, _, hR.2.2.2.1, ob, cB_has_y hbk hN hr ⟨_, rfl, ifF (by decide) (ifT c0 ⟨F, hF, _, hR.2.2.2.1, ob, cB_stampsOf hbk (by omega) ⟨_, rfl, _, rfl, zFr.rf, ⟨G, hG⟩, mo (K := True) (j := 0) (by omega) c0 hG hm (ifT c0 ⟨⟨G, hG⟩, cM_stampsOf hG gR hm (by omega) ⟨_, rfl, rfl, hA.up, zFr.rf⟩⟩)⟩⟩)⟩⟩
    · by_cases c1 : y = 1
      · refine b_BL_clock_0 ⟨F, hF, _, hR.2.2.2.1, ob, cB_has_y hbk hN hr ⟨_, rfl, ifF (by decide) (ifF c0 (ifT c1 ⟨F, hF, _, hR.2.2.1, ⟨W, hW⟩, cW_goodLinesFrom hbk hw iB.2.2.2 iB.2.2.1.1 (by omega) hN (by omega) (fun h1 hw1 hf1 => ⟨_, rfl, _, rfl, hf1.sub (fun z hz => by have hz : 19 ≤ z ∧ z < 117 := hz; show 8 ≤ z; omega), ⟨G, (hf1 _ (by omega)).trans hG⟩, ?_⟩)⟩))⟩⟩
        have hG1 := (hf1 139 (by omega)).trans hG
        have hm1 := hm.fr hf1 (by omega)
        have hAr1 := hAr.fr hf1 (fun z a b w => by have w : 19 ≤ z ∧ z < 117 := w; omega)
        refine mo (K := True) (j := 1) (by omega) c1 hG1 hm1 (ifF c0 (ifF (by rw [c1]; decide) (ifT c1 ⟨⟨G, hG1⟩, cM_goodOf (b := true) hG1 gR hm1 hAr1 iB.2.2.2 iB.2.2.1.1 iB.2.1.1 iB.2.1.2 hN hr (fun h2 hI2 => ⟨_, rfl, rfl, ?_⟩)⟩)))
        obtain ⟨⟨G2, hG2, gg⟩, -, -, -, hf2⟩ := id hI2
        exact AB_q hC hM iB iT iI iH hf1 r19 (wf hw1 hf1) hf2 (fun z hz => by have hz : z = 139 ∨ z = 145 ∨ z = 146 ∨ z = 147 := hz; omega) (y0.mf hG2 gg gR g5 g10 g30) (mAr_c hAr1 hI2)
      · by_cases c2 : y = 2
        · refine b_BL_clock_0 ⟨F, hF, _, hR.2.2.2.1, ob, cB_has_y hbk hN hr ⟨_, rfl, ifF (by decide) (ifF c0 (ifF c1 (ifT c2 ⟨F, hF, _, hR.2.2.1, ⟨W, hW⟩, cW_goodLinesTo hbk hw iB.2.2.2 iB.2.2.1.1 (by omega) hN (by omega) (fun h1 hw1 hf1 => ⟨_, rfl, _, rfl, hf1.sub (fun z hz => by have hz : 19 ≤ z ∧ z < 117 := hz; show 8 ≤ z; omega), ⟨G, (hf1 _ (by omega)).trans hG⟩, ?_⟩)⟩)))⟩⟩
          have hG1 := (hf1 139 (by omega)).trans hG
          have hm1 := hm.fr hf1 (by omega)
          have hAr1 := hAr.fr hf1 (fun z a b w => by have w : 19 ≤ z ∧ z < 117 := w; omega)
          refine mo (K := True) (j := 2) (by omega) c2 hG1 hm1 (ifF c0 (ifF (by rw [c2]; decide) (ifF c1 ⟨⟨G, hG1⟩, cM_goodOf (b := false) hG1 gR hm1 hAr1 iB.2.2.2 iB.2.2.1.1 iB.2.1.1 iB.2.1.2 hN hr (fun h2 hI2 => ⟨_, rfl, rfl, ?_⟩)⟩)))
          obtain ⟨⟨G2, hG2, gg⟩, -, -, -, hf2⟩ := id hI2
          exact AB_q hC hM iB iT iI iH hf1 r19 (wf hw1 hf1) hf2 (fun z hz => by have hz : z = 139 ∨ z = 145 ∨ z = 146 ∨ z = 147 := hz; omega) (y0.mf hG2 gg gR g5 g10 g30) (mAr_c hAr1 hI2)
        · by_cases c3 : y = 3
          · refine b_BL_clock_0 ⟨F, hF, _, hR.2.2.2.1, ob, cB_has_y hbk hN hr ⟨_, rfl, ifF (by decide) (ifF c0 (ifF c1 (ifF c2 (ifT c3 ⟨⟨F, hF⟩, cX_freshChains hF hR hbk hw hch iB.2.2.2 iB.2.2.1.1 iB.2.1.1 iB.2.1.2 (by omega) hN (fun h1 hw1 hc1 hch1 hf1 => ⟨_, rfl, hch1.1.imp fun _ w => w.1, cC_reachedFrom hc1 hch1 wok hN hr (fun h2 hc2 hch2 hf2 => ⟨_, rfl, _, rfl, ?_⟩)⟩)⟩))))⟩⟩
            have hf12 : zFr (fun z => 19 ≤ z ∧ z < 120) h h2 := (hf1.sub (fun z hz => by have hz : 19 ≤ z ∧ z < 119 := hz; show 19 ≤ z ∧ z < 120; omega)).trans (hf2.sub (fun z hz => by have hz : z = 117 ∨ z = 119 := hz; show 19 ≤ z ∧ z < 120; omega))
            have hw2 := hw1.fr hf2 (fun z hz w => by have hz : z = 117 ∨ z = 119 := hz; omega)
            have hG1 := (hf12 139 (by omega)).trans hG
            have hm1 := hm.fr hf12 (by omega)
            have hAr1 := hAr.fr hf12 (fun z a b w => by have w : 19 ≤ z ∧ z < 120 := w; omega)
            refine ⟨hf12.sub (fun z hz => by have hz : 19 ≤ z ∧ z < 120 := hz; show 8 ≤ z; omega), ⟨G, hG1⟩, mo (K := True) (j := 3) (by omega) c3 hG1 hm1 (ifF c0 (ifT (by rw [c3]; decide) ⟨⟨G, hG1⟩, cM_findsCosts hG1 gR hm1 hAr1.1 hAr1.2.1 hAr1.2.2.1 iB.2.2.2 iB.2.2.1.1 iB.2.1.1 iB.2.1.2 hN (fun h3 hI3 => ⟨rfl, ?_⟩)⟩))⟩
            obtain ⟨⟨G3, hG3, gg⟩, -, -, ⟨gc, hgc, hgc2⟩, hf3⟩ := id hI3
            have ar3 := mAr_c hAr1 hI3
            have cwr : cwR (csN B.2.2.2 B.2.1 B.2.2.1) (wtW B.2.2.2 B.2.1 B.2.2.1 B.1) B.1 := fun a b ha hb => ⟨cs_bd iB.2.2.2 iB.2.2.1.1 iB.2.1.1 iB.2.1.2 (by omega) (by omega), by unfold wtW; rw [if_pos ⟨ha, hb⟩]; rfl⟩
            refine ⟨⟨G3, hG3⟩, cM_reaches (c := csN B.2.2.2 B.2.1 B.2.2.1) (w := wtW B.2.2.2 B.2.1 B.2.2.1 B.1) hG3 (gg.R gR) ?_ ⟨gc, hgc, fun a b ha hb => hgc2 a b ha hb (Or.inl ha)⟩ ar3.2.2.2.1 ar3.2.2.2.2.1 cwr wok hN hr (fun h4 p1 p2 hf4 => ⟨_, rfl, rfl, ?_⟩)⟩
            · obtain ⟨s', hs', s0', -⟩ := hm1.fr hf3 (by decide)
              exact ⟨s', hs', s0'⟩
            · have hf34 : zFr (fun z => z = 139 ∨ (145 ≤ z ∧ z < 151)) h2 h4 := (hf3.sub (fun z hz => by have hz : z = 139 ∨ z = 145 ∨ z = 146 ∨ z = 147 := hz; show z = 139 ∨ (145 ≤ z ∧ z < 151); omega)).trans (hf4.sub (fun z hz => by have hz : z = 148 ∨ z = 149 := hz; show z = 139 ∨ (145 ≤ z ∧ z < 151); omega))
              refine AB_q hC hM iB iT iI iH hf12 (fun z hz => hz) (xW_q hxW hf12 (fun z hz => hz) hnw hw2 hch2) hf34 (fun z hz => hz) (y0.mf ((hf4 _ (by decide)).trans hG3) gg gR g5 g10 g30) ?_
              obtain ⟨a1, a2, a3, -, -, a6⟩ := ar3
              refine ⟨?_, ?_, ?_, p1, p2, ?_⟩
              · rw [hf4 _ (by decide)]; exact a1
              · rw [hf4 _ (by decide)]; exact a2
              · rw [hf4 _ (by decide)]; exact a3
              · rw [hf4 _ (by decide)]; exact a6
          · refine b_BL_clock_0 ⟨F, hF, _, hR.2.2.2.1, ob, cB_has_y hbk hN hr ⟨_, rfl, ifF (by decide) (ifF c0 (ifF c1 (ifF c2 (ifF c3 ⟨_, rfl, zFr.rf, ⟨G, hG⟩, b_Mo_clock_0 ⟨⟨G, hG⟩, mC_y hG gR hm hN hr ⟨_, rfl, ifF (by decide) (mR_n (N := 3) (hi := 3) rfl rfl rfl (by decide) ?_ ⟨_, rfl, ifT rfl ⟨rfl, hA.up, zFr.rf⟩⟩)⟩⟩⟩))))⟩⟩
            rintro ⟨j, hj, ey⟩
            rcases (show j = 0 ∨ j = 1 ∨ j = 2 ∨ j = 3 by omega) with rfl | rfl | rfl | rfl
            · exact c0 ey
            · exact c1 ey
            · exact c2 ey
            · exact c3 ey
  · exact b_BL_clock_0 ⟨F, hF, _, hR.2.2.2.1, ob, cB_has_n hbk hN hx ⟨_, rfl, ifT rfl ⟨_, rfl, zFr.rf, ⟨G, hG⟩, b_Mo_clock_0 ⟨⟨G, hG⟩, mC_n hG gR hm hN hx ⟨_, rfl, ifT rfl ⟨rfl, hA.up, zFr.rf⟩⟩⟩⟩⟩⟩
end C
