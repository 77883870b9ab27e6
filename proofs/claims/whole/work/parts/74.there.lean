/-! The class answers as the Model does: there -/
section D
variable (S : Nat → Int32) (l q : Int32) (N r s : Nat) (v : Int64)
def th1 : Int64 := (gT S l q N s r v (hpN S l q N s r)).1
def th2 : Int64 := (gT S l q N r s (th1 S l q N r s v) (hpN S l q N r s)).1
def thO : Bool := (((false || (gT S l q N s r v (hpN S l q N s r)).2) || (gT S l q N r s (th1 S l q N r s v) (hpN S l q N r s)).2)) || subO (th2 S l q N r s v) v
end D
theorem mGh.trans {G G1 G2 : Nat → Value} (a : mGh G G1) (b : mGh G1 G2) : mGh G G2 := fun k hk => (b k hk).trans (a k hk)
theorem mGh.R {G G1 : Nat → Value} (a : mGh G G1) (gR : mR G) : mR G1 := mR_of gR (fun k hk => a k (by omega))
theorem mGf.h {G G1 : Nat → Value} (a : mGf G G1) : mGh G G1 := fun k hk => a k (by omega)
section C
variable {d : Nat} {e : Nat × Nat} {h : zH} {Q : zQ} {k : Nat}
theorem cM_there47 {G : Nat → Value} {S : Nat → Int32} {l q : Int32} {N r s : Nat} {v : Int64} (hG : h.2 139 = zO 10 G) (gR : mR G) (hm : msA h (nI N) l q S) (hAr : mAr h) (hS : StK S) (hq : 2 ≤ q) (hl : 0 ≤ l) (hl2 : l ≤ 99) (hN : N ≤ 7) (hr : r < N) (hs : s < N) (hd1 : wD S l q N s r < bI) (hd2 : wD S l q N r s < bI)
    (K0 : thO S l q N r s v = true → ∀ h' G', h'.2 139 = zO 10 G' → mGh G G' → mAr h' → zFr tkY h h' → Q (some (.long (-3))) h')
    (K1 : thO S l q N r s v = false → ∀ h' G', h'.2 139 = zO 10 (zU G' 30 (.int 1)) → mGh G G' → mAr h' → zFr tkY h h' → Q (some (.long (th2 S l q N r s v - v))) h') : zW (d + 8) m_Mo_there e 47 [.ref 139, .int (nI r), .int (nI s), .long v, zD, zD, zD] [] h Q := by
  refine b_Mo_there_47 ⟨G, hG, ?_⟩
  rintro h2 rfl
  have fr1 : zFr tkY h (zP h 139 (zO 10 (zU G 32 (.long v)))) := zFr.put (Or.inl rfl)
  have fr1' : zFr (fun z => z = 139) h (zP h 139 (zO 10 (zU G 32 (.long v)))) := zFr.put rfl
  have g1 : mGh G (zU G 32 (.long v)) := fun k hk => zU_ne _ _ (by omega)
  refine ⟨⟨_, zP_same _ _ _⟩, cM_goes (v := v) (zP_same _ _ _) (g1.R gR) (hm.fr fr1' (by decide)) (hAr.fr fr1' (fun z a b w => by have w : z = 139 := w; omega)) hS hq hl hl2 hN hr hs rfl (fun c => by omega) (fun _ h3 G3 hG3 g3 ar3 hf3 hv3 => ⟨_, rfl, ?_⟩)⟩
  have fr3 : zFr tkY h h3 := fr1.trans (hf3.sub (fun z hz => mA150_Y hz))
  cases c1 : (gT S l q N s r v (hpN S l q N s r)).2 with
  | true => exact ifF (by decide) (K0 (by unfold thO; rw [c1]; rfl) h3 G3 hG3 (g1.trans g3) ar3 fr3)
  | false =>
    refine ifT rfl ⟨⟨G3, hG3⟩, cM_goes (v := th1 S l q N r s v) hG3 ((g1.trans g3).R gR) (hm.fr fr3 (by decide)) ar3 hS hq hl hl2 hN hs hr (hv3 c1) (fun c => by omega) (fun _ h4 G4 hG4 g4 ar4 hf4 hv4 => ⟨_, rfl, ?_⟩)⟩
    have fr4 : zFr tkY h h4 := fr3.trans (hf4.sub (fun z hz => mA150_Y hz))
    have g14 := (g1.trans g3).trans g4
    cases c2 : (gT S l q N r s (th1 S l q N r s v) (hpN S l q N r s)).2 with
    | true => exact ifF (by decide) (K0 (by unfold thO; rw [c1, c2]; rfl) h4 G4 hG4 g14 ar4 fr4)
    | false =>
      have hv4' : G4 32 = .long (th2 S l q N r s v) := hv4 c2
      refine ifT rfl ⟨G4, hG4, _, hv4', G4, hG4, _, hv4', G4, hG4, _, hv4', ?_⟩
      have so := sub_ov (th2 S l q N r s v) v
      refine ifB (fun c => ⟨G4, hG4, ?_⟩) (fun c => ?_)
      · have cn : subO (th2 S l q N r s v) v = false := by
          have hc := Int64.le_iff_toInt_le.mp (lc_ge.mp c)
          rw [show (0 : Int64).toInt = 0 from rfl] at hc
          cases hb : subO (th2 S l q N r s v) v with
          | false => rfl
          | true => have := so.mpr hb; omega
        rintro h16 rfl
        have fr5 : zFr (fun z => z = 139) h4 (zP h4 139 (zO 10 (zU G4 30 (.int 1)))) := zFr.put rfl
        exact K1 (by unfold thO; rw [c1, c2, cn]; rfl) _ G4 (zP_same _ _ _) g14 (ar4.fr fr5 (fun z a b w => by have w : z = 139 := w; omega)) (fr4.trans (fr5.sub (fun z hz => Or.inl hz)))
      · have cn : subO (th2 S l q N r s v) v = true := by
          refine so.mp ?_
          have hc := mt (fun w => lc_ge.mpr (Int64.le_iff_toInt_le.mpr w)) c
          rw [show (0 : Int64).toInt = 0 from rfl] at hc
          omega
        exact K0 (by unfold thO; rw [cn, Bool.or_true]) h4 G4 hG4 g14 ar4 fr4
theorem P_there (hA : AB h k) (hk : k < 2 ^ 29) (x y : Int32) (v : Int64) : PRl (d + 9) h k m_BL_there [.ref 8, .int x, .int y, .long v, zD] m_Mo_there [.ref 139, .int x, .int y, .long v, zD, zD, zD] := by
  obtain ⟨B, t, I, H, f, o, hC, hM, iB, iT, iI, iH⟩ := id hA
  obtain ⟨⟨F, hF, hR, f10, f11⟩, -, hxW, ⟨-, htm⟩, -⟩ := id hC
  obtain ⟨hbk, ⟨nw, hnw, hw⟩, hch⟩ := id hxW
  obtain ⟨⟨G, hG, gR, g5, g10, g30⟩, hm, ⟨-, hAr, -⟩, -⟩ := id hM
  have hN := iB.1.2
  have wok := wt_ok (N := B.1) iB.2.2.2 iB.2.2.1.1 iB.2.1.1 iB.2.1.2 hN
  unfold PRl
  refine b_BL_there_0 ⟨F, hF, ?_⟩
  rintro h0 rfl
  have hR0 : blR (zU F 11 (.int 0)) := blR_of hR (fun j hj => zU_ne _ _ (by omega))
  have hF0 : (zP h 8 (zO 9 (zU F 11 (.int 0)))).2 8 = zO 9 (zU F 11 (.int 0)) := zP_same _ _ _
  have f10' : zU F 11 (.int 0) 10 = .int f := f10
  have fr0 : zFr tkZ h (zP h 8 (zO 9 (zU F 11 (.int 0)))) := zFr.put (Or.inl rfl)
  have fr0' : zFr (fun z => z = 8) h (zP h 8 (zO 9 (zU F 11 (.int 0)))) := zFr.put rfl
  have hbk0 := hbk.fr fr0' (by decide) (by decide)
  have hw0 := hw.fr fr0' (fun z hz q => by have hz : z = 8 := hz; omega)
  have hch0 := hch.fr fr0' (fun z hz q => by have hz : z = 8 := hz; omega)
  have ht0 : ∃ E, (zP h 8 (zO 9 (zU F 11 (.int 0)))).2 123 = zO 7 E := by rw [fr0' _ (by decide)]; exact htm
  have f11' : zU F 11 (.int 0) 11 = .int 0 := rfl
  generalize zP h 8 (zO 9 (zU F 11 (.int 0))) = h0 at *
  generalize zU F 11 (.int 0) = F0 at *
  have ob : ∃ F, h0.2 15 = zO 0 F := hbk0.1.imp fun _ w => w.1
  have xw : ∀ {h1 : zH}, zFr tkZ h h1 → wbA h1 B.2.2.2 B.2.1 B.2.2.1 nw → chO h1 → xW h1 k B := fun hf hw hc => ⟨hbk.fr hf (by decide) (by decide), ⟨nw, hnw, hw⟩, hc⟩
  have bad : ∀ {P : Prop}, (∀ {e : Nat × Nat} {Q : zQ}, (∀ h2, (AB h2 (k + 1) ∧ zFr up8 h h2) → Q (some (.long (-1))) h2) → zW (d + 9) m_Mo_there e 0 [.ref 139, .int x, .int y, .long v, zD, zD, zD] [] h0 Q) → ∃ z : Int64, some (Value.long (-1)) = some (.long z) ∧ zFr up8 h h0 ∧ (∃ G, h0.2 139 = zO 10 G) ∧ zW (d + 9) m_Mo_there h0.1 0 [.ref 139, .int x, .int y, .long v, zD, zD, zD] [] h0 (fun r2 h2 => r2 = some (.long z) ∧ AB h2 (k + 1) ∧ zFr up8 h h2) := fun {_} w => ⟨_, rfl, fr0'.sub (fun z hz => by rw [hz]; decide), ⟨G, (fr0' _ (by decide)).trans hG⟩, w (fun h2 ab => ⟨rfl, ab⟩)⟩
  have hG0 := (fr0' 139 (by decide)).trans hG
  have hm0 := hm.fr fr0' (by decide)
  have abad : AB (zP h0 139 (zO 10 (zU G 30 (.int 0)))) (k + 1) ∧ zFr up8 h (zP h0 139 (zO 10 (zU G 30 (.int 0)))) := by
    have fr2 : zFr (fun z => z = 139) h0 (zP h0 139 (zO 10 (zU G 30 (.int 0)))) := zFr.put rfl
    exact AB_t hC hM iB iT iI iH fr0 (fun z hz => hz) ⟨F0, hF0, hR0, f10', f11'⟩ (xw fr0 hw0 hch0) ht0 fr2 (fun z hz => Or.inl hz) ⟨_, zP_same _ _ _, mR_of gR (fun j hj => zU_ne _ _ (by omega)), g5, g10, rfl⟩ (((hAr.fr fr0' (fun z a b w => by have w : z = 8 := w; omega)).fr fr2 (fun z a b w => by have w : z = 139 := w; omega)))
  have gR30 : mR (zU G 30 (.int 0)) := mR_of gR (fun j hj => zU_ne _ _ (by omega))
  have hm30 : ∀ c, msA (zP h0 139 c) (nI B.1) B.2.1 B.2.2.1 B.2.2.2 := fun c => hm0.fr (zFr.put (A := fun z => z = 139) rfl) (by decide)
  rcases qR_dec B.1 x with ⟨r, hr, rfl⟩ | hx
  · rcases qR_dec B.1 y with ⟨s, hs, rfl⟩ | hy
    · have hps := hp_bf wok hN hs 6
      have hpr := hp_bf wok hN hr 6
      have hbs := hps.2.1 r
      have hbr := hpr.2.1 s
      refine ⟨F0, hF0, _, hR0.2.2.2.1, ob, cB_has_y hbk0 hN hr ⟨_, rfl, ifF (by decide) (b_BL_there_16 ⟨F0, hF0, _, hR0.2.2.2.1, ob, cB_has_y hbk0 hN hs ⟨_, rfl, ifF (by decide) ⟨⟨F0, hF0⟩, cX_freshChains hF0 hR0 hbk0 hw0 hch0 iB.2.2.2 iB.2.2.1.1 iB.2.1.1 iB.2.1.2 (by omega) hN (fun h1 hw1 hc1 hch1 hf1 => ⟨_, rfl, hch1.1.imp fun _ w => w.1, cC_reaches hc1 hch1 wok hN hr hs (fun h2 hc2 hf2 => ⟨_, rfl, ?_⟩)⟩)⟩⟩⟩)⟩⟩
      have hf02 : zFr (fun z => 19 ≤ z ∧ z < 120) h0 h2 := (hf1.sub (fun z hz => by have hz : 19 ≤ z ∧ z < 119 := hz; show 19 ≤ z ∧ z < 120; omega)).trans (hf2.sub (fun z hz => by have hz : z = 117 ∨ z = 119 := hz; show 19 ≤ z ∧ z < 120; omega))
      have hfz2 : zFr tkZ h h2 := fr0.trans (hf02.sub (fun z hz => Or.inr (Or.inl hz)))
      have hw2 := hw1.fr hf2 (fun z hz w => by have hz : z = 117 ∨ z = 119 := hz; omega)
      have hF2 : h2.2 8 = zO 9 F0 := (hf02 8 (by omega)).trans hF0
      have ht2 : ∃ F, h2.2 123 = zO 7 F := by rw [hf02 _ (by omega)]; exact ht0
      have up : ∀ {h1 : zH}, zFr tkZ h h1 → zFr up8 h h1 := fun hf => hf.sub (fun z hz => by have hz : z = 8 ∨ (19 ≤ z ∧ z < 120) ∨ z = 123 := hz; show 8 ≤ z; omega)
      have mo : ∀ {h1 : zH} {Q : zQ} {e : Nat × Nat}, zFr tkZ h h1 → ((wD B.2.2.2 B.2.1 B.2.2.1 B.1 s r = bI ∨ wD B.2.2.2 B.2.1 B.2.2.1 B.1 r s = bI) → ∀ h3, y0 h3 t f 0 → mAr h3 → zFr tkY h1 h3 → Q (some (.long (-2))) h3) → (wD B.2.2.2 B.2.1 B.2.2.1 B.1 s r < bI → wD B.2.2.2 B.2.1 B.2.2.1 B.1 r s < bI → thO B.2.2.2 B.2.1 B.2.2.1 B.1 r s v = true → ∀ h3, y0 h3 t f 0 → mAr h3 → zFr tkY h1 h3 → Q (some (.long (-3))) h3) → (wD B.2.2.2 B.2.1 B.2.2.1 B.1 s r < bI → wD B.2.2.2 B.2.1 B.2.2.1 B.1 r s < bI → thO B.2.2.2 B.2.1 B.2.2.1 B.1 r s v = false → ∀ h3, y0 h3 t f 1 → mAr h3 → zFr tkY h1 h3 → Q (some (.long (th2 B.2.2.2 B.2.1 B.2.2.1 B.1 r s v - v))) h3) → zW (d + 9) m_Mo_there e 0 [.ref 139, .int (nI r), .int (nI s), .long v, zD, zD, zD] [] h1 Q := by
        intro h1 Q e hfz KN K0 K1
        have hG1 := (hfz 139 (by decide)).trans hG
        have hm1 := hm.fr hfz (by decide)
        have hAr1 := hAr.fr hfz (fun z a b w => by have w : z = 8 ∨ (19 ≤ z ∧ z < 120) ∨ z = 123 := w; omega)
        refine b_Mo_there_0 ⟨G, hG1, ?_⟩
        rintro h2 rfl
        have hmP : ∀ c, msA (zP h1 139 c) (nI B.1) B.2.1 B.2.2.1 B.2.2.2 := fun c => hm1.fr (zFr.put (A := fun z => z = 139) rfl) (by decide)
        have frY : zFr tkY h1 (zP h1 139 (zO 10 (zU G 30 (.int 0)))) := zFr.put (Or.inl rfl)
        have ar2 : mAr (zP h1 139 (zO 10 (zU G 30 (.int 0)))) := hAr1.fr (zFr.put (A := fun z => z = 139) rfl) (fun z a b w => by have w : z = 139 := w; omega)
        refine ⟨⟨_, zP_same _ _ _⟩, mC_y (zP_same _ _ _) gR30 (hmP _) hN hr ⟨_, rfl, ifF (by decide) ⟨⟨_, zP_same _ _ _⟩, mC_y (zP_same _ _ _) gR30 (hmP _) hN hs ⟨_, rfl, ifF (by decide) ⟨⟨_, zP_same _ _ _⟩, cM_reachesOne (zP_same _ _ _) gR30 (hmP _) ar2 iB.2.2.2 iB.2.2.1.1 iB.2.1.1 iB.2.1.2 hN hr hs (fun c1 h3 G3 hG3 g3 ar3 hf3 => ⟨_, rfl, ifF (by decide) ⟨⟨G3, hG3⟩, cM_reachesOne hG3 (g3.R gR30) ((hmP _).fr hf3 (by decide)) ar3 iB.2.2.2 iB.2.2.1.1 iB.2.1.1 iB.2.1.2 hN hs hr (fun c2 h4 G4 hG4 g4 ar4 hf4 => ⟨_, rfl, ifF (by decide) ?_⟩) (fun c2 h4 G4 hG4 g4 ar4 hf4 => ⟨_, rfl, ifT rfl (KN (Or.inr c2) h4 (y0.mf hG4 g4 (g3.R gR30) ((g3 5 (by omega)).trans g5) ((g3 10 (by omega)).trans g10) ((g3 30 (by omega)).trans rfl)) ar4 ((frY.trans hf3).trans hf4))⟩)⟩⟩) (fun c1 h3 G3 hG3 g3 ar3 hf3 => ⟨_, rfl, ifT rfl (KN (Or.inl c1) h3 (y0.mf hG3 g3 gR30 g5 g10 rfl) ar3 (frY.trans hf3))⟩)⟩⟩⟩⟩⟩
        have g34 := g3.h.trans g4.h
        have fr4 := (frY.trans hf3).trans hf4
        refine cM_there47 hG4 (g34.R gR30) ((hmP _).fr (hf3.trans hf4) (by decide)) ar4 iB.2.2.2 iB.2.2.1.1 iB.2.1.1 iB.2.1.2 hN hr hs c1 c2 (fun hb h5 G5 hG5 g5' ar5 hf5 => K0 c1 c2 hb h5 (y0.mh hG5 (g34.trans g5') gR30 g5 g10 rfl) ar5 (fr4.trans hf5)) (fun hb h5 G5 hG5 g5' ar5 hf5 => K1 c1 c2 hb h5 ⟨_, hG5, mR_of ((g34.trans g5').R gR30) (fun j hj => zU_ne _ _ (by omega)), ((g34.trans g5') 5 (by omega)).trans g5, ((g34.trans g5') 10 (by omega)).trans g10, rfl⟩ ar5 (fr4.trans hf5))
      cases cd : rcB (wtW B.2.2.2 B.2.1 B.2.2.1 B.1) B.1 r s with
      | false =>
        have c : wD B.2.2.2 B.2.1 B.2.2.1 B.1 s r = bI := by have := of_decide_eq_false cd; unfold wD; omega
        exact ifT rfl ⟨_, rfl, up hfz2, ⟨G, (hfz2 139 (by decide)).trans hG⟩, mo hfz2 (fun _ h3 hy0 ar3 hf3 => ⟨rfl, AB_t hC hM iB iT iI iH hfz2 (fun z hz => hz) ⟨F0, hF2, hR0, f10', f11'⟩ (xw hfz2 hw2 hc2.ch) ht2 hf3 (fun z hz => hz) hy0 ar3⟩) (fun w => by omega) (fun w => by omega)⟩
      | true =>
        have hlt : wD B.2.2.2 B.2.1 B.2.2.1 B.1 s r < bI := of_decide_eq_true cd
        refine ifF (by decide) ⟨F0, hF2, _, hR0.2.2.2.2.1, hc2.ch.1.imp fun _ w => w.1, cC_reaches hc2.cl hc2.ch wok hN hs hr (fun h3 hc3 hf3 => ⟨_, rfl, ?_⟩)⟩
        have hfz3 : zFr tkZ h h3 := hfz2.trans (hf3.sub (fun z hz => by have hz : z = 117 ∨ z = 119 := hz; show z = 8 ∨ (19 ≤ z ∧ z < 120) ∨ z = 123; omega))
        have hw3 := hw2.fr hf3 (fun z hz w => by have hz : z = 117 ∨ z = 119 := hz; omega)
        have hF3 : h3.2 8 = zO 9 F0 := (hf3 8 (by decide)).trans hF2
        have ht3 : ∃ F, h3.2 123 = zO 7 F := by rw [hf3 _ (by decide)]; exact ht2
        cases cd2 : rcB (wtW B.2.2.2 B.2.1 B.2.2.1 B.1) B.1 s r with
        | false =>
          have c : wD B.2.2.2 B.2.1 B.2.2.1 B.1 r s = bI := by have := of_decide_eq_false cd2; unfold wD; omega
          exact ifT rfl ⟨_, rfl, up hfz3, ⟨G, (hfz3 139 (by decide)).trans hG⟩, mo hfz3 (fun _ h4 hy0 ar4 hf4 => ⟨rfl, AB_t hC hM iB iT iI iH hfz3 (fun z hz => hz) ⟨F0, hF3, hR0, f10', f11'⟩ (xw hfz3 hw3 hc3.ch) ht3 hf4 (fun z hz => hz) hy0 ar4⟩) (fun _ w => by omega) (fun _ w => by omega)⟩
        | true =>
          have hlt2 : wD B.2.2.2 B.2.1 B.2.2.1 B.1 r s < bI := of_decide_eq_true cd2
          refine ifF (by decide) ⟨F0, hF3, _, hR0.2.2.2.2.2.2.1, ht3, cX_startAt (v := v) ht3 (fun h4 ht4 hf4 => ⟨rfl, ⟨F0, (hf4 8 (by decide)).trans hF3⟩, ?_⟩)⟩
          have hfz4 : zFr tkZ h h4 := hfz3.trans (hf4.sub (fun z hz => Or.inr (Or.inr hz)))
          have hF4 : h4.2 8 = zO 9 F0 := (hf4 8 (by decide)).trans hF3
          refine cX_takeAlong hF4 hR0 (hbk.fr hfz4 (by decide) (by decide)) (hw3.fr hf4 (fun z hz w => by have hz : z = 123 := hz; omega)) (hc3.cl.fr hf4 (fun z hz w => by have hz : z = 123 := hz; omega)) (hc3.ch.fr hf4 (fun z hz w => by have hz : z = 123 := hz; omega)) ht4 iB.2.2.2 iB.2.2.1.1 iB.2.1.1 iB.2.1.2 (by omega) hN hr hs hlt (fun h5 hw5 hc5 hch5 ht5 hf5 => ⟨rfl, ⟨F0, (hf5 8 (by decide)).trans hF4⟩, ?_⟩)
          have hfz5 : zFr tkZ h h5 := hfz4.trans (hf5.sub (fun z hz => Or.inr hz))
          have hF5 : h5.2 8 = zO 9 F0 := (hf5 8 (by decide)).trans hF4
          refine cX_takeAlong hF5 hR0 (hbk.fr hfz5 (by decide) (by decide)) hw5 hc5 hch5 ht5 iB.2.2.2 iB.2.2.1.1 iB.2.1.1 iB.2.1.2 (by omega) hN hs hr hlt2 (fun h6 hw6 hc6 hch6 ht6 hf6 => ⟨rfl, F0, (hf6 8 (by decide)).trans hF5, _, hR0.2.2.2.2.2.2.1, ht6.imp fun _ w => w.1, cX_subtract ht6 (fun h7 ht7 hf7 => ⟨rfl, ⟨F0, (hf7 8 (by decide)).trans ((hf6 8 (by decide)).trans hF5)⟩, ?_⟩)⟩)
          have hfz7 : zFr tkZ h h7 := (hfz5.trans (hf6.sub (fun z hz => Or.inr hz))).trans (hf7.sub (fun z hz => Or.inr (Or.inr hz)))
          have hF7 : h7.2 8 = zO 9 F0 := (hf7 8 (by decide)).trans ((hf6 8 (by decide)).trans hF5)
          have hw7 := hw6.fr hf7 (fun z hz w => by have hz : z = 123 := hz; omega)
          have hch7 := hch6.fr hf7 (fun z hz w => by have hz : z = 123 := hz; omega)
          have ht7' : ∃ F, h7.2 123 = zO 7 F := ht7.imp fun _ w => w.1
          refine cX_told hF7 hR0 ht7 (fun hb => ⟨_, rfl, _, rfl, ?_⟩) (fun hb => ⟨_, rfl, _, rfl, up hfz7, ⟨G, (hfz7 139 (by decide)).trans hG⟩, ?_⟩)
          · have hb' : thO B.2.2.2 B.2.1 B.2.2.1 B.1 r s v = false := hb
            have fr8 : zFr (fun z => z = 8) h7 (zP h7 8 (zO 9 (zU F0 11 (.int 1)))) := zFr.put rfl
            have hfz8 : zFr tkZ h (zP h7 8 (zO 9 (zU F0 11 (.int 1)))) := hfz7.trans (fr8.sub (fun z hz => Or.inl hz))
            refine ⟨up hfz8, ⟨G, (hfz8 139 (by decide)).trans hG⟩, mo hfz8 (fun w => by omega) (fun _ _ w => by rw [hb'] at w; cases w) (fun _ _ _ h9 hy0 ar9 hf9 => ⟨rfl, AB_t hC hM iB iT iI iH hfz8 (fun z hz => hz) ⟨_, zP_same _ _ _, blR_of hR0 (fun j hj => zU_ne _ _ (by omega)), f10', rfl⟩ (xw hfz8 (hw7.fr fr8 (fun z hz w => by have hz : z = 8 := hz; omega)) (hch7.fr fr8 (fun z hz w => by have hz : z = 8 := hz; omega))) (by rw [fr8 _ (by decide)]; exact ht7') hf9 (fun z hz => hz) hy0 ar9⟩)⟩
          · have hb' : thO B.2.2.2 B.2.1 B.2.2.1 B.1 r s v = true := hb
            exact mo hfz7 (fun w => by omega) (fun _ _ _ h9 hy0 ar9 hf9 => ⟨rfl, AB_t hC hM iB iT iI iH hfz7 (fun z hz => hz) ⟨F0, hF7, hR0, f10', f11'⟩ (xw hfz7 hw7 hch7) ht7' hf9 (fun z hz => hz) hy0 ar9⟩) (fun _ _ w => by rw [hb'] at w; cases w)
    · refine ⟨F0, hF0, _, hR0.2.2.2.1, ob, cB_has_y hbk0 hN hr ⟨_, rfl, ifF (by decide) (b_BL_there_16 ⟨F0, hF0, _, hR0.2.2.2.1, ob, cB_has_n hbk0 hN hy ⟨_, rfl, ifT rfl (bad (P := True) (fun {e} {Q} w => b_Mo_there_0 ⟨G, hG0, ?_⟩))⟩⟩)⟩⟩
      rintro h2 rfl
      exact ⟨⟨_, zP_same _ _ _⟩, mC_y (zP_same _ _ _) gR30 (hm30 _) hN hr ⟨_, rfl, ifF (by decide) ⟨⟨_, zP_same _ _ _⟩, mC_n (zP_same _ _ _) gR30 (hm30 _) hN hy ⟨_, rfl, ifT rfl (w _ abad)⟩⟩⟩⟩
  · refine ⟨F0, hF0, _, hR0.2.2.2.1, ob, cB_has_n hbk0 hN hx ⟨_, rfl, ifT rfl (bad (P := True) (fun {e} {Q} w => b_Mo_there_0 ⟨G, hG0, ?_⟩))⟩⟩
    rintro h2 rfl
    exact ⟨⟨_, zP_same _ _ _⟩, mC_n (zP_same _ _ _) gR30 (hm30 _) hN hx ⟨_, rfl, ifT rfl (w _ abad)⟩⟩
end C
