/-! The class answers as the Model does: text -/
theorem blR_of {F F' : Nat → Value} (hR : blR F) (g : ∀ j, j < 10 → F' j = F j) : blR F' := by
  unfold blR
  rw [g 0 (by decide), g 1 (by decide), g 2 (by decide), g 3 (by decide), g 4 (by decide), g 5 (by decide), g 6 (by decide), g 7 (by decide), g 8 (by decide), g 9 (by decide)]
  exact hR
abbrev cls (z : Nat) : Prop := 8 ≤ z ∧ z < 139
section C
variable {d : Nat} {e : Nat × Nat} {h : zH} {Q : zQ} {k : Nat} {B : bkT} {t : tpT} {I : imT} {H : shT} {f o : Int32}
theorem cX_dropImages {F : Nat → Value} {g : Nat → Int32} (hF : h.2 8 = zO 9 F) (hR : blR F) (hg : h.2 125 = zI 1 2 g) (K : ∀ g', g' 0 = 0 → g' 1 = 0 → Q none (zP h 125 (zI 1 2 g'))) : zW (d + 1) m_BL_dropImages e 0 [.ref 8, zD] [] h Q := by
  refine b_BL_dropImages_0 (b_BL_dropImages_2 (ifF (by decide) ⟨F, hF, _, hR.2.2.2.2.2.2.2.2.1, by decide, 2, g, hg, zIn_nI (show 0 < 2 by decide) (by decide), ?_⟩))
  rintro h5 rfl
  refine b_BL_dropImages_2 (ifF (by decide) ⟨F, (zP_ne _ _ (by decide)).trans hF, _, hR.2.2.2.2.2.2.2.2.1, by decide, 2, _, zP_same _ _ _, zIn_nI (show 1 < 2 by decide) (by decide), ?_⟩)
  rintro h5 rfl
  rw [zP_zP]
  exact b_BL_dropImages_2 (ifT (by decide) (K _ rfl rfl))
theorem cX_text (hC : CA h k B t I H f o) (iB : bkI B) (iT : tpI t) (hk : k < 2 ^ 29)
    (K0 : ∀ c h', txP t.2 t.1 B.2.1 B.2.2.1 = .inl c → CA h' k B (0, t.2) I H c.1 o → zFr cls h h' → Q (some (.int (-10 - nI c.2))) h')
    (K1 : ∀ y N' h', txP t.2 t.1 B.2.1 B.2.2.1 = .inr y → rdI y → y.2.1.1 = nI N' → 1 ≤ N' → N' ≤ 7 → CA h' (k + 1) (N', y.2.1.2.1, y.2.1.2.2, y.2.2.1) (0, t.2) (fun j => (false, (I j).2)) H 0 o → zFr cls h h' → Q (some (.int (nI (cnA y.2.2.1 N')))) h') : zW (d + 9) m_BL_text e 0 [.ref 8, zD] [] h Q := by
  obtain ⟨⟨F, hF, hR, f10, f11⟩, ⟨⟨FR, hFR, r0, r1⟩, ⟨dn, dl, dq, dS, hdB⟩, hT⟩, ⟨hbk, ⟨nw, hnw, hw⟩, hch⟩, hD, ⟨hI1, ⟨gk, hgk, gk2⟩, hI3⟩, hH⟩ := id hC
  obtain ⟨⟨F5, hF5, f50, f51⟩, T0, hT0, hT02⟩ := id hT
  obtain ⟨⟨⟨W, hW, -⟩, -⟩, -⟩ := id hw
  have ob : ∃ F, h.2 15 = zO 0 F := hbk.1.imp fun _ w => w.1
  refine b_BL_text_0 ⟨F, hF, _, hR.1, F, hF, _, hR.2.2.2.1, ⟨FR, hFR⟩, cR_readAll iB.2.1 iB.2.2.1 hFR r0 r1 hdB hbk hT iT.1 (fun h1 hz hf1 => ⟨_, rfl, F, (hf1 8 (by decide)).trans hF, _, hR.2.1, F5, (hf1 10 (by decide)).trans hF5, ?_⟩)⟩
  rintro h11 rfl
  have hf11 : zFr (fun z => z = 9 ∨ z = 10 ∨ z = 12 ∨ z = 13) h (zP h1 10 (zO 5 (zU F5 0 (.int 0)))) := (hf1.sub (fun z hz => by have hz : z = 9 ∨ z = 12 ∨ z = 13 := hz; show z = 9 ∨ z = 10 ∨ z = 12 ∨ z = 13; omega)).trans (zFr.put (Or.inr (Or.inl rfl)))
  have hF11 : (zP h1 10 (zO 5 (zU F5 0 (.int 0)))).2 8 = zO 9 F := (hf11 8 (by decide)).trans hF
  have a10 : tpA (zP h1 10 (zO 5 (zU F5 0 (.int 0)))) 0 t.2 := ⟨⟨_, zP_same _ _ _, rfl, f51⟩, T0, (hf11 11 (by decide)).trans hT0, fun i hi => by omega⟩
  have u10 : ∀ {c : zCell}, (zP h1 10 (zO 5 (zU F5 0 (.int 0)))).2 9 = h1.2 9 := fun {_} => zP_ne _ _ (by decide)
  have b10 : ∀ {n l q : Int32} {S : Nat → Int32}, bkA h1 12 n l q S → bkA (zP h1 10 (zO 5 (zU F5 0 (.int 0)))) 12 n l q S := fun w => w.fr (zFr.put (A := fun z => z = 10) rfl) (by decide) (by decide)
  have e9 : (zP h1 10 (zO 5 (zU F5 0 (.int 0)))).2 9 = h1.2 9 := zP_ne _ _ (by decide)
  clear u10
  generalize zP h1 10 (zO 5 (zU F5 0 (.int 0))) = h2 at hf11 hF11 a10 b10 e9 ⊢
  cases eo : txP t.2 t.1 B.2.1 B.2.2.1 with
  | inl c =>
    rw [eo] at hz
    obtain ⟨⟨F9, hF9, a0, a1, a2, a3⟩, ⟨n9, l9, q9, S9, hb9⟩, hcc⟩ := hz
    have hF92 : h2.2 9 = zO 6 F9 := e9.trans hF9
    refine ⟨F, hF11, _, hR.1, F9, hF92, _, a2, F, hF11, ?_⟩
    rintro h17 rfl
    have fr8 : zFr (fun z => z = 8) h2 (zP h2 8 (zO 9 (zU F 10 (.int c.1)))) := zFr.put rfl
    refine ifT rfl ⟨_, zP_same _ _ _, _, hR.1, F9, (zP_ne _ _ (by decide)).trans hF92, _, a3, K0 c _ eo ?_ ?_⟩
    · have c1 : CA h2 k B (0, t.2) I H f o := CA.tx hC hf11 (fun z hz => by have hz : z = 9 ∨ z = 10 ∨ z = 12 ∨ z = 13 := hz; omega) ⟨⟨F9, hF92, a0, a1⟩, ⟨_, _, _, _, b10 hb9⟩, a10⟩
      exact CA.ob c1 fr8 (fun z hz => hz) ⟨_, zP_same _ _ _, blR_of hR (fun j hj => zU_ne _ _ (by omega)), rfl, f11⟩
    · exact (hf11.sub (fun z hz => by have hz : z = 9 ∨ z = 10 ∨ z = 12 ∨ z = 13 := hz; show 8 ≤ z ∧ z < 139; omega)).trans (fr8.sub (fun z hz => by rw [hz]; decide))
  | inr y =>
    rw [eo] at hz
    obtain ⟨F9, hF9, a0, a1, a2, a4, a5, hb9⟩ := hz
    have hF92 : h2.2 9 = zO 6 F9 := e9.trans hF9
    have iy := txP_inv iB.2.1 iB.2.2.1 eo
    obtain ⟨⟨N', hN1, hN7, hNe⟩, -⟩ := id iy
    have hb92 := b10 hb9
    refine ⟨F, hF11, _, hR.1, F9, hF92, _, a2, F, hF11, ?_⟩
    rintro h17 rfl
    have fr8 : zFr (fun z => z = 8) h2 (zP h2 8 (zO 9 (zU F 10 (.int 0)))) := zFr.put rfl
    have hR' : blR (zU F 10 (.int 0)) := blR_of hR (fun j hj => zU_ne _ _ (by omega))
    have c1 : CA (zP h2 8 (zO 9 (zU F 10 (.int 0)))) k B (0, t.2) I H 0 o := CA.ob (CA.tx hC hf11 (fun z hz => by have hz : z = 9 ∨ z = 10 ∨ z = 12 ∨ z = 13 := hz; omega) ⟨⟨F9, hF92, a0, a1⟩, ⟨_, _, _, _, hb92⟩, a10⟩) fr8 (fun z hz => hz) ⟨_, zP_same _ _ _, hR', rfl, f11⟩
    have hf3 : zFr cls h (zP h2 8 (zO 9 (zU F 10 (.int 0)))) := (hf11.sub (fun z hz => by have hz : z = 9 ∨ z = 10 ∨ z = 12 ∨ z = 13 := hz; show 8 ≤ z ∧ z < 139; omega)).trans (fr8.sub (fun z hz => by rw [hz]; decide))
    have hF3 : (zP h2 8 (zO 9 (zU F 10 (.int 0)))).2 8 = zO 9 (zU F 10 (.int 0)) := zP_same _ _ _
    have hF93 : (zP h2 8 (zO 9 (zU F 10 (.int 0)))).2 9 = zO 6 F9 := (zP_ne _ _ (by decide)).trans hF92
    have hb93 := hb92.fr fr8 (by decide) (by decide)
    generalize zP h2 8 (zO 9 (zU F 10 (.int 0))) = h3 at c1 hf3 hF3 hF93 hb93 ⊢
    obtain ⟨-, -, ⟨hbk3, ⟨nw3, hnw3, hw3⟩, hch3⟩, -, ⟨-, ⟨gk3, hgk3, gk23⟩, -⟩, -⟩ := id c1
    obtain ⟨⟨⟨W3, hW3, -⟩, -⟩, -⟩ := id hw3
    refine ifF (show ¬ (1 : Int32) = 0 by decide) ⟨_, hF3, _, hR'.2.2.2.1, _, hF3, _, hR'.1, F9, hF93, _, a1, hbk3.1.imp fun _ w => w.1, cB_copyFrom hbk3 hb93 (by decide) (fun h4 hb4 hf4 => ⟨rfl, _, (hf4 8 (by decide)).trans hF3, _, hR'.2.2.1, ⟨W3, (hf4 14 (by decide)).trans hW3⟩, cW_touchAll (S' := y.2.2.1) (l' := y.2.1.2.1) (q' := y.2.1.2.2) (hw3.fr hf4 (fun z hz w => by have hz : z = 15 ∨ z = 15 + 1 := hz; omega)) (by omega) (fun h5 hw5 hf5 => ⟨rfl, ⟨_, (hf5 8 (by decide)).trans ((hf4 8 (by decide)).trans hF3)⟩, ?_⟩)⟩)⟩
    have hf45 : zFr (fun z => z = 14 ∨ z = 15 ∨ z = 16 ∨ z = 18) h3 h5 := (hf4.sub (fun z hz => by have hz : z = 15 ∨ z = 15 + 1 := hz; show z = 14 ∨ z = 15 ∨ z = 16 ∨ z = 18; omega)).trans (hf5.sub (fun z hz => by have hz : z = 14 ∨ z = 18 := hz; show z = 14 ∨ z = 15 ∨ z = 16 ∨ z = 18; omega))
    have rg : ∀ z, (z = 14 ∨ z = 15 ∨ z = 16 ∨ z = 18) → 14 ≤ z ∧ z < 120 := fun z hz => by omega
    have hb5 := hb4.fr hf5 (by decide) (by decide)
    rw [hNe] at hb5
    have c5 : CA h5 (k + 1) (N', y.2.1.2.1, y.2.1.2.2, y.2.2.1) (0, t.2) I H 0 o := CA.wb c1 hf45 rg (xW_all (B := (N', y.2.1.2.1, y.2.1.2.2, y.2.2.1)) hb5 hw5 hnw3 hch3 hf45 (fun z hz w => by have hz : z = 14 ∨ z = 15 ∨ z = 16 ∨ z = 18 := hz; omega))
    have hF5' : h5.2 8 = zO 9 (zU F 10 (.int 0)) := (hf45 8 (by decide)).trans hF3
    refine cX_dropImages hF5' hR' ((hf45 125 (by decide)).trans hgk3) (fun g' g0' g1' => ⟨rfl, _, (zP_ne _ _ (by decide)).trans hF5', _, hR'.2.2.2.1, ?_⟩)
    have fr6 : zFr (fun z => z = 125) h5 (zP h5 125 (zI 1 2 g')) := zFr.put rfl
    have hb6 := hb5.fr fr6 (by decide) (by decide)
    refine ⟨hb6.1.imp fun _ w => w.1, cB_allStamps hb6 hN7 ⟨_, rfl, K1 y N' _ eo iy hNe hN1 hN7 ?_ ?_⟩⟩
    · obtain ⟨-, -, -, -, ⟨i1, -, i3⟩, -⟩ := id c5
      refine CA.im c5 fr6 (fun z hz => by have hz : z = 125 := hz; omega) ⟨?_, ⟨g', zP_same _ _ _, fun j hj => ?_⟩, fun j hj => ⟨?_, fun w => by cases w⟩⟩
      · rw [fr6 _ (by decide)]; exact i1
      · rcases (show j = 0 ∨ j = 1 by omega) with rfl | rfl
        · exact g0'
        · exact g1'
      · obtain ⟨⟨n', l', q', S', w1⟩, -⟩ := i3 j hj
        exact ⟨n', l', q', S', w1.fr fr6 (by omega) (by omega)⟩
    · exact (hf3.trans (hf45.sub (fun z hz => by have := rg z hz; show 8 ≤ z ∧ z < 139; omega))).trans (fr6.sub (fun z hz => by rw [hz]; decide))
theorem P_text (hA : AB h k) (hk : k < 2 ^ 29) : PRi (d + 9) h k m_BL_text [.ref 8, zD] m_Mo_text [.ref 139, zD] := by
  obtain ⟨B, t, I, H, f, o, hC, hM, iB, iT, iI, iH⟩ := id hA
  unfold PRi
  have mdl : ∀ {h1 : zH}, zFr cls h h1 → MA h1 B t I H f o := fun hf => hM.fr hf (fun z hz => hz.2)
  refine cX_text hC iB iT hk (fun c h1 eo hC1 hf1 => ⟨_, rfl, hf1.sub (fun z hz => hz.1), ?_⟩) (fun y N' h1 eo iy hNe hN1 hN7 hC1 hf1 => ⟨_, rfl, hf1.sub (fun z hz => hz.1), ?_⟩)
  · have hM1 := mdl hf1
    obtain ⟨⟨G, hG, gR, g5, g10, g30⟩, hm, ⟨hs1, hs2, hs3, hs4⟩, hyI, hmt, hyH⟩ := id hM1
    refine ⟨⟨G, hG⟩, cM_text ⟨hG, gR, g5, hmt⟩ iT.1 iT.2 hm iB.1.2 iB.2.1 iB.2.2.1 hs1 (hyI.2.imp fun _ w => w.1) (fun c' h2 G2 eo2 hG2 gg q5 q10 hd2 hf2 => ?_) (fun y h2 G2 N' eo2 => by rw [eo] at eo2; cases eo2)⟩
    rw [eo] at eo2
    cases eo2
    refine ⟨rfl, ⟨B, (0, t.2), I, H, c.1, o, ?_, ?_, iB, ⟨Nat.zero_le _, fun i hi => absurd hi (Nat.not_lt_zero _)⟩, iI, iH⟩, (hf1.sub (fun z hz => hz.1)).trans (hf2.sub (fun z hz => by have hz : z = 139 ∨ z = 141 := hz; show 8 ≤ z; omega))⟩
    · exact CA.fr (hC1.up (by omega)) hf2 (fun z hz => by have hz : z = 139 ∨ z = 141 := hz; omega)
    · refine ⟨⟨G2, hG2, mR_of gR (fun j hj => gg j (by omega)), q5, q10, (gg 30 (by omega)).trans g30⟩, hm.fr hf2 (by decide), ⟨hd2, hs2.fr hf2 (fun z a b w => by have w : z = 139 ∨ z = 141 := w; omega), ?_, ?_⟩, hyI.fr hf2 (by decide) (by decide), ⟨_, (hmt.fr hf2 (by decide)).choose_spec.1, fun i hi => absurd hi (Nat.not_lt_zero _)⟩, hyH.fr hf2 (by decide) (by decide) (by decide)⟩
      · rw [hf2 _ (by decide)]; exact hs3
      · rw [hf2 _ (by decide)]; exact hs4
  · have hM1 := mdl hf1
    obtain ⟨⟨G, hG, gR, g5, g10, g30⟩, hm, ⟨hs1, hs2, hs3, hs4⟩, hyI, hmt, hyH⟩ := id hM1
    refine ⟨⟨G, hG⟩, cM_text ⟨hG, gR, g5, hmt⟩ iT.1 iT.2 hm iB.1.2 iB.2.1 iB.2.2.1 hs1 (hyI.2.imp fun _ w => w.1) (fun c' h2 G2 eo2 => by rw [eo] at eo2; cases eo2) (fun y' h2 G2 N2 eo2 hN2 hN27 hG2 gg q5 q10 hd2 hm2 hk2 hf2 => ?_)⟩
    rw [eo] at eo2
    cases eo2
    have en : N2 = N' := (nI_eq (by omega) (by omega)).mp (hN2.symm.trans hNe)
    subst en
    refine ⟨rfl, ⟨(N2, y.2.1.2.1, y.2.1.2.2, y.2.2.1), (0, t.2), fun j => (false, (I j).2), H, 0, o, ?_, ?_, ⟨⟨hN1, hN7⟩, iy.2⟩, ⟨Nat.zero_le _, fun i hi => absurd hi (Nat.not_lt_zero _)⟩, fun j _ w => (by cases w), iH⟩, (hf1.sub (fun z hz => hz.1)).trans (hf2.sub (fun z hz => by have hz : z = 139 ∨ z = 140 ∨ z = 141 ∨ z = 143 := hz; show 8 ≤ z; omega))⟩
    · exact CA.fr hC1 hf2 (fun z hz => by have hz : z = 139 ∨ z = 140 ∨ z = 141 ∨ z = 143 := hz; omega)
    · rw [hNe] at hm2
      refine ⟨⟨G2, hG2, mR_of gR (fun j hj => gg j (by omega)), q5, q10, (gg 30 (by omega)).trans g30⟩, hm2, ⟨hd2, hs2.fr hf2 (fun z a b w => by have w : z = 139 ∨ z = 140 ∨ z = 141 ∨ z = 143 := w; omega), ?_, ?_⟩, ⟨?_, ?_⟩, ⟨_, (hmt.fr hf2 (by decide)).choose_spec.1, fun i hi => absurd hi (Nat.not_lt_zero _)⟩, hyH.fr hf2 (by decide) (by decide) (by decide)⟩
      · rw [hf2 _ (by decide)]; exact hs3
      · rw [hf2 _ (by decide)]; exact hs4
      · obtain ⟨⟨g, hg, -⟩, -⟩ := hyI
        exact ⟨g, (hf2 _ (by decide)).trans hg, fun j _ w => by cases w⟩
      · obtain ⟨g, hg, g0, g1⟩ := hk2
        refine ⟨g, hg, fun j hj => ?_⟩
        rcases (show j = 0 ∨ j = 1 by omega) with rfl | rfl
        · exact g0
        · exact g1
end C
