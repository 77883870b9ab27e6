/-! The class answers as the Model does: taken, there -/
section C
variable {d : Nat} {e : Nat × Nat} {h : zH} {Q : zQ} {k : Nat}
abbrev tkZ (z : Nat) : Prop := z = 8 ∨ (19 ≤ z ∧ z < 120) ∨ z = 123
abbrev tkY (z : Nat) : Prop := z = 139 ∨ (145 ≤ z ∧ z < 151)
theorem cX_told {F : Nat → Value} {v : Int64} {b : Bool} (hF : h.2 8 = zO 9 F) (hR : blR F) (ht : tmA h v b) (K1 : b = false → Q (some (.long v)) (zP h 8 (zO 9 (zU F 11 (.int 1))))) (K0 : b = true → Q (some (.long (-3))) h) : zW (d + 1) m_BL_toldTime e 0 [.ref 8] [] h Q := by
  obtain ⟨E, hE, e0, e1⟩ := ht
  refine b_BL_toldTime_0 ⟨F, hF, _, hR.2.2.2.2.2.2.1, E, hE, _, e1, ?_⟩
  cases b with
  | true => exact ifF (by decide) (K0 rfl)
  | false =>
    refine ifT rfl ⟨F, hF, ?_⟩
    rintro h6 rfl
    exact ⟨_, zP_same _ _ _, _, hR.2.2.2.2.2.2.1, E, (zP_ne _ _ (by decide)).trans hE, _, e0, K1 rfl⟩
theorem y0.mh {h1 : zH} {t : tpT} {f o : Int32} {G G1 : Nat → Value} (hG : h1.2 139 = zO 10 G1) (g : mGh G G1) (gR : mR G) (g5 : G 5 = .int (nI t.1)) (g10 : G 10 = .int f) (g30 : G 30 = .int o) : y0 h1 t f o := ⟨G1, hG, mR_of gR (fun k hk => g k (by omega)), (g 5 (by omega)).trans g5, (g 10 (by omega)).trans g10, (g 30 (by omega)).trans g30⟩
theorem mA150_Y {z : Nat} (h : mA150 z) : tkY z := by
  have h : z = 139 ∨ (145 ≤ z ∧ z ≤ 150) := h
  show z = 139 ∨ (145 ≤ z ∧ z < 151)
  omega
theorem P_taken (hA : AB h k) (hk : k < 2 ^ 29) (x y : Int32) (v : Int64) : PRl (d + 9) h k m_BL_taken [.ref 8, .int x, .int y, .long v, zD] m_Mo_taken [.ref 139, .int x, .int y, .long v, zD, zD] := by
  obtain ⟨B, t, I, H, f, o, hC, hM, iB, iT, iI, iH⟩ := id hA
  obtain ⟨⟨F, hF, hR, f10, f11⟩, -, hxW, ⟨-, htm⟩, -⟩ := id hC
  obtain ⟨hbk, ⟨nw, hnw, hw⟩, hch⟩ := id hxW
  obtain ⟨⟨G, hG, gR, g5, g10, g30⟩, hm, ⟨-, hAr, -⟩, -⟩ := id hM
  have hN := iB.1.2
  have wok := wt_ok (N := B.1) iB.2.2.2 iB.2.2.1.1 iB.2.1.1 iB.2.1.2 hN
  unfold PRl
  refine b_BL_taken_0 ⟨F, hF, ?_⟩
  rintro h0 rfl
  have hR0 : blR (zU F 11 (.int 0)) := blR_of hR (fun j hj => zU_ne _ _ (by omega))
  have hF0 : (zP h 8 (zO 9 (zU F 11 (.int 0)))).2 8 = zO 9 (zU F 11 (.int 0)) := zP_same _ _ _
  have f10' : zU F 11 (.int 0) 10 = .int f := f10
  have fr0 : zFr tkZ h (zP h 8 (zO 9 (zU F 11 (.int 0)))) := zFr.put (Or.inl rfl)
  have fr0' : zFr (fun z => z = 8) h (zP h 8 (zO 9 (zU F 11 (.int 0)))) := zFr.put rfl
  have hbk0 := hbk.fr fr0' (by decide) (by decide)
  have hw0 := hw.fr fr0' (fun z hz q => by have hz : z = 8 := hz; omega)
  have hch0 := hch.fr fr0' (fun z hz q => by have hz : z = 8 := hz; omega)
  have ht0 : ∃ E, (zP h 8 (zO 9 (zU F 11 (.int 0)))).2 123 = zO 7 E := by rw [fr0' _ (by decide)]; exact htm
  have f11' : zU F 11 (.int 0) 11 = .int 0 := rfl
  generalize zP h 8 (zO 9 (zU F 11 (.int 0))) = h0 at *
  generalize zU F 11 (.int 0) = F0 at *
  have ob : ∃ F, h0.2 15 = zO 0 F := hbk0.1.imp fun _ w => w.1
  have xw : ∀ {h1 : zH}, zFr tkZ h h1 → wbA h1 B.2.2.2 B.2.1 B.2.2.1 nw → chO h1 → xW h1 k B := fun hf hw hc => ⟨hbk.fr hf (by decide) (by decide), ⟨nw, hnw, hw⟩, hc⟩
  have bad : ∀ {P : Prop}, (∀ {e : Nat × Nat} {Q : zQ}, (∀ h2, (AB h2 (k + 1) ∧ zFr up8 h h2) → Q (some (.long (-1))) h2) → zW (d + 9) m_Mo_taken e 0 [.ref 139, .int x, .int y, .long v, zD, zD] [] h0 Q) → ∃ z : Int64, some (Value.long (-1)) = some (.long z) ∧ zFr up8 h h0 ∧ (∃ G, h0.2 139 = zO 10 G) ∧ zW (d + 9) m_Mo_taken h0.1 0 [.ref 139, .int x, .int y, .long v, zD, zD] [] h0 (fun r2 h2 => r2 = some (.long z) ∧ AB h2 (k + 1) ∧ zFr up8 h h2) := fun {_} w => ⟨_, rfl, fr0'.sub (fun z hz => by rw [hz]; decide), ⟨G, (fr0' _ (by decide)).trans hG⟩, w (fun h2 ab => ⟨rfl, ab⟩)⟩
  have hG0 := (fr0' 139 (by decide)).trans hG
  have hm0 := hm.fr fr0' (by decide)
  have abad : AB (zP h0 139 (zO 10 (zU G 30 (.int 0)))) (k + 1) ∧ zFr up8 h (zP h0 139 (zO 10 (zU G 30 (.int 0)))) := by
    have fr2 : zFr (fun z => z = 139) h0 (zP h0 139 (zO 10 (zU G 30 (.int 0)))) := zFr.put rfl
    exact AB_t hC hM iB iT iI iH fr0 (fun z hz => hz) ⟨F0, hF0, hR0, f10', f11'⟩ (xw fr0 hw0 hch0) ht0 fr2 (fun z hz => Or.inl hz) ⟨_, zP_same _ _ _, mR_of gR (fun j hj => zU_ne _ _ (by omega)), g5, g10, rfl⟩ (((hAr.fr fr0' (fun z a b w => by have w : z = 8 := w; omega)).fr fr2 (fun z a b w => by have w : z = 139 := w; omega)))
  have gR30 : mR (zU G 30 (.int 0)) := mR_of gR (fun j hj => zU_ne _ _ (by omega))
  have hm30 : ∀ c, msA (zP h0 139 c) (nI B.1) B.2.1 B.2.2.1 B.2.2.2 := fun c => hm0.fr (zFr.put (A := fun z => z = 139) rfl) (by decide)
  rcases qR_dec B.1 x with ⟨r, hr, rfl⟩ | hx
  · rcases qR_dec B.1 y with ⟨s, hs, rfl⟩ | hy
    · have hp := hp_bf wok hN hs 6
      have hbr := hp.2.1 r
      refine ⟨F0, hF0, _, hR0.2.2.2.1, ob, cB_has_y hbk0 hN hr ⟨_, rfl, ifF (by decide) ⟨F0, hF0, _, hR0.2.2.2.1, ob, cB_has_y hbk0 hN hs ⟨_, rfl, ifF (by decide) ⟨⟨F0, hF0⟩, cX_freshChains hF0 hR0 hbk0 hw0 hch0 iB.2.2.2 iB.2.2.1.1 iB.2.1.1 iB.2.1.2 (by omega) hN (fun h1 hw1 hc1 hch1 hf1 => ⟨_, rfl, hch1.1.imp fun _ w => w.1, cC_reaches hc1 hch1 wok hN hr hs (fun h2 hc2 hf2 => ⟨_, rfl, ?_⟩)⟩)⟩⟩⟩⟩⟩
      have hf02 : zFr (fun z => 19 ≤ z ∧ z < 120) h0 h2 := (hf1.sub (fun z hz => by have hz : 19 ≤ z ∧ z < 119 := hz; show 19 ≤ z ∧ z < 120; omega)).trans (hf2.sub (fun z hz => by have hz : z = 117 ∨ z = 119 := hz; show 19 ≤ z ∧ z < 120; omega))
      have hfz2 : zFr tkZ h h2 := fr0.trans (hf02.sub (fun z hz => Or.inr (Or.inl hz)))
      have hw2 := hw1.fr hf2 (fun z hz w => by have hz : z = 117 ∨ z = 119 := hz; omega)
      have hF2 : h2.2 8 = zO 9 F0 := (hf02 8 (by omega)).trans hF0
      have ht2 : ∃ F, h2.2 123 = zO 7 F := by rw [hf02 _ (by omega)]; exact ht0
      have up : ∀ {h1 : zH}, zFr tkZ h h1 → zFr up8 h h1 := fun hf => hf.sub (fun z hz => by have hz : z = 8 ∨ (19 ≤ z ∧ z < 120) ∨ z = 123 := hz; show 8 ≤ z; omega)
      have mo : ∀ {h1 : zH} {Q : zQ} {e : Nat × Nat}, zFr tkZ h h1 → (wD B.2.2.2 B.2.1 B.2.2.1 B.1 s r = bI → ∀ h3 G3, h3.2 139 = zO 10 G3 → y0 h3 t f 0 → mAr h3 → zFr tkY h1 h3 → Q (some (.long (-2))) h3) → (wD B.2.2.2 B.2.1 B.2.2.1 B.1 s r < bI → ∀ h3 G3, h3.2 139 = zO 10 G3 → mGh (zU (zU G 30 (.int 0)) 32 (.long v)) G3 → mAr h3 → zFr tkY h1 h3 → ((gT B.2.2.2 B.2.1 B.2.2.1 B.1 s r v (hpN B.2.2.2 B.2.1 B.2.2.1 B.1 s r)).2 = false → G3 32 = .long (gT B.2.2.2 B.2.1 B.2.2.1 B.1 s r v (hpN B.2.2.2 B.2.1 B.2.2.1 B.1 s r)).1) → (if (if (gT B.2.2.2 B.2.1 B.2.2.1 B.1 s r v (hpN B.2.2.2 B.2.1 B.2.2.1 B.1 s r)).2 = true then (-3 : Int32) else 0) = 0 then (∃ F14, h3.2 139 = zO 10 F14 ∧ ∀ h15, h15 = zP h3 139 (zO 10 (zU F14 30 (Value.int (1 : Int32)))) → (∃ F16, h15.2 139 = zO 10 F16 ∧ ∃ x17, F16 32 = Value.long x17 ∧ (Q (some (Value.long x17)) h15))) else Q (some (Value.long (if (gT B.2.2.2 B.2.1 B.2.2.1 B.1 s r v (hpN B.2.2.2 B.2.1 B.2.2.1 B.1 s r)).2 = true then (-3 : Int32) else 0).toInt64)) h3)) → zW (d + 9) m_Mo_taken e 0 [.ref 139, .int (nI r), .int (nI s), .long v, zD, zD] [] h1 Q := by
        intro h1 Q e hfz K0 K1
        have hG1 := (hfz 139 (by decide)).trans hG
        have hm1 := hm.fr hfz (by decide)
        have hAr1 := hAr.fr hfz (fun z a b w => by have w : z = 8 ∨ (19 ≤ z ∧ z < 120) ∨ z = 123 := w; omega)
        refine b_Mo_taken_0 ⟨G, hG1, ?_⟩
        rintro h2 rfl
        have hmP : ∀ c, msA (zP h1 139 c) (nI B.1) B.2.1 B.2.2.1 B.2.2.2 := fun c => hm1.fr (zFr.put (A := fun z => z = 139) rfl) (by decide)
        refine ⟨⟨_, zP_same _ _ _⟩, mC_y (zP_same _ _ _) gR30 (hmP _) hN hr ⟨_, rfl, ifF (by decide) ⟨⟨_, zP_same _ _ _⟩, mC_y (zP_same _ _ _) gR30 (hmP _) hN hs ⟨_, rfl, ifF (by decide) ⟨_, zP_same _ _ _, ?_⟩⟩⟩⟩⟩
        rintro h10 rfl
        rw [zP_zP]
        have frY : zFr tkY h1 (zP h1 139 (zO 10 (zU (zU G 30 (.int 0)) 32 (.long v)))) := zFr.put (Or.inl rfl)
        refine ⟨⟨_, zP_same _ _ _⟩, cM_goes (G := zU (zU G 30 (.int 0)) 32 (.long v)) (v := v) (zP_same _ _ _) (mR_of gR30 (fun j hj => zU_ne _ _ (by omega))) (hmP _) (hAr1.fr (zFr.put (A := fun z => z = 139) rfl) (fun z a b w => by have w : z = 139 := w; omega)) iB.2.2.2 iB.2.2.1.1 iB.2.1.1 iB.2.1.2 hN hr hs rfl (fun c h3 G3 hG3 gg ar3 hf3 => ⟨_, rfl, ifF (by decide) (K0 c h3 G3 hG3 (y0.mh hG3 gg (mR_of gR30 (fun j hj => zU_ne _ _ (by omega))) g5 g10 rfl) ar3 (frY.trans (hf3.sub (fun z hz => mA150_Y hz))))⟩) (fun c h3 G3 hG3 gg ar3 hf3 hg => ⟨_, rfl, K1 c h3 G3 hG3 gg ar3 (frY.trans (hf3.sub (fun z hz => mA150_Y hz))) hg⟩)⟩
      cases cd : rcB (wtW B.2.2.2 B.2.1 B.2.2.1 B.1) B.1 r s with
      | false =>
        have c : wD B.2.2.2 B.2.1 B.2.2.1 B.1 s r = bI := by have := of_decide_eq_false cd; unfold wD; omega
        exact ifT rfl ⟨_, rfl, up hfz2, ⟨G, (hfz2 139 (by decide)).trans hG⟩, mo hfz2 (fun _ h3 G3 hG3 hy0 ar3 hf3 => ⟨rfl, AB_t hC hM iB iT iI iH hfz2 (fun z hz => hz) ⟨F0, hF2, hR0, f10', f11'⟩ (xw hfz2 hw2 hc2.ch) ht2 hf3 (fun z hz => hz) hy0 ar3⟩) (fun w => by omega)⟩
      | true =>
        have hlt : wD B.2.2.2 B.2.1 B.2.2.1 B.1 s r < bI := of_decide_eq_true cd
        refine ifF (by decide) ⟨F0, hF2, _, hR0.2.2.2.2.2.2.1, ht2, cX_startAt (v := v) ht2 (fun h3 ht3 hf3 => ⟨rfl, ⟨F0, (hf3 8 (by decide)).trans hF2⟩, ?_⟩)⟩
        have hfz3 : zFr tkZ h h3 := hfz2.trans (hf3.sub (fun z hz => Or.inr (Or.inr hz)))
        have hF3 : h3.2 8 = zO 9 F0 := (hf3 8 (by decide)).trans hF2
        refine cX_takeAlong hF3 hR0 (hbk.fr hfz3 (by decide) (by decide)) (hw2.fr hf3 (fun z hz w => by have hz : z = 123 := hz; omega)) (hc2.cl.fr hf3 (fun z hz w => by have hz : z = 123 := hz; omega)) (hc2.ch.fr hf3 (fun z hz w => by have hz : z = 123 := hz; omega)) ht3 iB.2.2.2 iB.2.2.1.1 iB.2.1.1 iB.2.1.2 (by omega) hN hr hs hlt (fun h4 hw4 hc4 hch4 ht4 hf4 => ⟨rfl, ⟨F0, (hf4 8 (by decide)).trans hF3⟩, ?_⟩)
        have hfz4 : zFr tkZ h h4 := hfz3.trans (hf4.sub (fun z hz => Or.inr hz))
        have hF4 : h4.2 8 = zO 9 F0 := (hf4 8 (by decide)).trans hF3
        have ht4' : ∃ F, h4.2 123 = zO 7 F := ht4.imp fun _ w => w.1
        refine cX_told hF4 hR0 ht4 (fun hb => ⟨_, rfl, _, rfl, ?_⟩) (fun hb => ⟨_, rfl, _, rfl, up hfz4, ⟨G, (hfz4 139 (by decide)).trans hG⟩, ?_⟩)
        · have hb' : (gT B.2.2.2 B.2.1 B.2.2.1 B.1 s r v (hpN B.2.2.2 B.2.1 B.2.2.1 B.1 s r)).2 = false := by simpa using hb
          have fr5 : zFr (fun z => z = 8) h4 (zP h4 8 (zO 9 (zU F0 11 (.int 1)))) := zFr.put rfl
          have hfz5 : zFr tkZ h (zP h4 8 (zO 9 (zU F0 11 (.int 1)))) := hfz4.trans (fr5.sub (fun z hz => Or.inl hz))
          refine ⟨up hfz5, ⟨G, (hfz5 139 (by decide)).trans hG⟩, mo hfz5 (fun w => by omega) (fun _ h6 G6 hG6 gg ar6 hf6 hg => ?_)⟩
          rw [hb']
          refine ifT rfl ⟨G6, hG6, ?_⟩
          rintro h15 rfl
          have fr7 : zFr (fun z => z = 139) h6 (zP h6 139 (zO 10 (zU G6 30 (.int 1)))) := zFr.put rfl
          refine ⟨_, zP_same _ _ _, _, hg hb', rfl, AB_t hC hM iB iT iI iH hfz5 (fun z hz => hz) ⟨_, zP_same _ _ _, blR_of hR0 (fun j hj => zU_ne _ _ (by omega)), f10', rfl⟩ (xw hfz5 (hw4.fr fr5 (fun z hz w => by have hz : z = 8 := hz; omega)) (hch4.fr fr5 (fun z hz w => by have hz : z = 8 := hz; omega))) (by rw [fr5 _ (by decide)]; exact ht4') (hf6.trans (fr7.sub (fun z hz => Or.inl hz))) (fun z hz => hz) ⟨_, zP_same _ _ _, mR_of gR30 (fun j hj => (zU_ne _ _ (by omega)).trans ((gg j (by omega)).trans (zU_ne _ _ (by omega)))), (gg 5 (by omega)).trans g5, (gg 10 (by omega)).trans g10, rfl⟩ (ar6.fr fr7 (fun z a b w => by have w : z = 139 := w; omega))⟩
        · have hb' : (gT B.2.2.2 B.2.1 B.2.2.1 B.1 s r v (hpN B.2.2.2 B.2.1 B.2.2.1 B.1 s r)).2 = true := by simpa using hb
          refine mo hfz4 (fun w => by omega) (fun _ h6 G6 hG6 gg ar6 hf6 hg => ?_)
          rw [hb']
          exact ifF (by decide) ⟨rfl, AB_t hC hM iB iT iI iH hfz4 (fun z hz => hz) ⟨F0, hF4, hR0, f10', f11'⟩ (xw hfz4 hw4 hch4) ht4' hf6 (fun z hz => hz) (y0.mh hG6 gg (mR_of gR30 (fun j hj => zU_ne _ _ (by omega))) g5 g10 rfl) ar6⟩
    · refine ⟨F0, hF0, _, hR0.2.2.2.1, ob, cB_has_y hbk0 hN hr ⟨_, rfl, ifF (by decide) ⟨F0, hF0, _, hR0.2.2.2.1, ob, cB_has_n hbk0 hN hy ⟨_, rfl, ifT rfl (bad (P := True) (fun {e} {Q} w => b_Mo_taken_0 ⟨G, hG0, ?_⟩))⟩⟩⟩⟩
      rintro h2 rfl
      exact ⟨⟨_, zP_same _ _ _⟩, mC_y (zP_same _ _ _) gR30 (hm30 _) hN hr ⟨_, rfl, ifF (by decide) ⟨⟨_, zP_same _ _ _⟩, mC_n (zP_same _ _ _) gR30 (hm30 _) hN hy ⟨_, rfl, ifT rfl (w _ abad)⟩⟩⟩⟩
  · refine ⟨F0, hF0, _, hR0.2.2.2.1, ob, cB_has_n hbk0 hN hx ⟨_, rfl, ifT rfl (bad (P := True) (fun {e} {Q} w => b_Mo_taken_0 ⟨G, hG0, ?_⟩))⟩⟩
    rintro h2 rfl
    exact ⟨⟨_, zP_same _ _ _⟩, mC_n (zP_same _ _ _) gR30 (hm30 _) hN hx ⟨_, rfl, ifT rfl (w _ abad)⟩⟩
end C
