/-! The class answers as the Model does: feed, end, fault, ok, stamp, hear, lose -/
theorem AB.up {h : zH} {k : Nat} (a : AB h k) : AB h (k + 1) := by
  obtain ⟨B, t, I, H, f, o, hC, q⟩ := a
  exact ⟨B, t, I, H, f, o, hC.up (by omega), q⟩
theorem i8_id : ∀ j, j < 128 → (nI j).toInt8.toInt32 = nI j := by decide +kernel
theorem rowE_put {S : Nat → Int32} {r b r2 : Nat} {v : Int32} (hb : b < 16) (hr : r2 ≠ r) : rowE S (zU S (16 * r + b) v) r2 := fun b2 hb2 => by rw [zU_ne _ _ (by omega)]
section C
variable {d : Nat} {e : Nat × Nat} {h : zH} {Q : zQ} {k : Nat}
theorem P_feed (hA : AB h k) (x : Int32) : PRi (d + 9) h k m_BL_feed [.ref 8, .int x] m_Mo_feed [.ref 139, .int x] := by
  obtain ⟨B, t, I, H, f, o, hC, hM, iB, iT, iI, iH⟩ := id hA
  obtain ⟨⟨F, hF, hR, f10, f11⟩, ⟨hrd, hdB, hT⟩, -⟩ := id hC
  obtain ⟨⟨G, hG, gR, g5, g10, g30⟩, hm, hs, hyI, hmt, hyH⟩ := id hM
  unfold PRi
  rcases qR_dec 128 x with ⟨j, hj, rfl⟩ | hx
  · refine b_BL_feed_0 (ifF (nI_pos (by omega)) (ifT (show nI j ≤ nI 127 from nI_le (by omega) (by decide)) ⟨F, hF, _, hR.2.1, hT.1.imp fun _ w => w.1, cT_append hT iT.1 (i8_id j hj) (fun hlt h1 ht1 hf1 => ⟨_, rfl, ifF (by decide) ?_⟩) (fun he => ⟨_, rfl, ifT rfl ⟨_, rfl, zFr.rf, ⟨G, hG⟩, ?_⟩⟩)⟩))
    · obtain ⟨⟨F5, hF5, f50, f51⟩, hT1⟩ := id ht1
      have hM1 : MA h1 B t I H f o := hM.fr hf1 (fun z hz => by rcases hz with rfl | rfl <;> decide)
      obtain ⟨⟨G1, hG1, gR1, g51, g101, g301⟩, hm1, hs1, hyI1, ⟨T0, hT0, hT02⟩, hyH1⟩ := id hM1
      refine ⟨F, (hf1 8 (by decide)).trans hF, _, hR.2.1, F5, hF5, _, f50, _, rfl, hf1.sub (fun z hz => by rcases hz with rfl | rfl <;> decide), ⟨_, hG1⟩, ?_⟩
      refine b_Mo_feed_0 (mR_y (N := 127) (hi := 127) rfl rfl rfl (by decide) (by omega) ⟨_, rfl, ifF (by decide) ⟨G1, hG1, _, g51, ifF (fun w => ?_) ⟨G1, hG1, _, gR1.2.2.2.2.1, G1, hG1, _, g51, 300, T0, hT0, zIn_nI hlt (by decide), ?_⟩⟩⟩)
      · have := (nI_eq (a := t.1) (b := 300) (by omega) (by decide)).mp w
        omega
      · rintro h12 rfl
        refine ⟨G1, (zP_ne _ _ (by decide)).trans hG1, _, g51, G1, (zP_ne _ _ (by decide)).trans hG1, ?_⟩
        rintro h16 rfl
        rw [nI_1, nI_clamp (by omega)]
        have fr2 : zFr (fun z => z = 144 ∨ z = 139) h1 (zP (zP h1 144 (zI 0 300 (zU T0 t.1 (nI j)))) 139 (zO 10 (zU G1 5 (.int (nI (t.1 + 1)))))) := (zFr.put (Or.inl rfl)).trans (zFr.put (Or.inr rfl))
        refine ⟨_, zP_same _ _ _, _, rfl, rfl, ?_, ?_⟩
        · refine ⟨B, (t.1 + 1, zU t.2 t.1 (nI j)), I, H, f, o, ?_, ?_, iB, ⟨by show t.1 + 1 ≤ 300; omega, fun i hi => ?_⟩, iI, iH⟩
          · refine CA.fr (CA.up (CA.tx hC hf1 (fun z hz => by rcases hz with rfl | rfl <;> decide) ⟨?_, ?_, ht1⟩) (by omega)) fr2 (fun z hz => by rcases hz with rfl | rfl <;> decide)
            · rw [hf1 9 (by decide)]; exact hrd
            · obtain ⟨a, b, c, s, w⟩ := hdB
              exact ⟨a, b, c, s, w.fr hf1 (by decide) (by decide)⟩
          · refine ⟨⟨_, zP_same _ _ _, mR_of gR1 (fun i hi => zU_ne _ _ (by omega)), rfl, g101, g301⟩, hm1.fr fr2 (by decide), hs1.fr fr2 (fun z hz w => by have w : z = 144 ∨ z = 139 := w; omega), hyI1.fr fr2 (by decide) (by decide), ⟨_, (zP_ne _ _ (by decide)).trans (zP_same _ _ _), fun i hi => ?_⟩, hyH1.fr fr2 (by decide) (by decide) (by decide)⟩
            have hi : i < t.1 + 1 := hi
            show zU T0 t.1 (nI j) i = zU t.2 t.1 (nI j) i
            by_cases c : i = t.1
            · rw [c, zU_same, zU_same]
            · rw [zU_ne _ _ c, zU_ne _ _ c]; exact hT02 i (by omega)
          · have hi : i < t.1 + 1 := hi
            show 0 ≤ zU t.2 t.1 (nI j) i ∧ zU t.2 t.1 (nI j) i ≤ 127
            by_cases c : i = t.1
            · rw [c, zU_same]; exact ⟨nI_pos' (by omega), nI_le (b := 127) (by omega) (by decide)⟩
            · rw [zU_ne _ _ c]; exact iT.2 i (by omega)
        · exact (hf1.sub (fun z hz => by rcases hz with rfl | rfl <;> decide)).trans (fr2.sub (fun z hz => by rcases hz with rfl | rfl <;> decide))
    · refine b_Mo_feed_0 (mR_y (N := 127) (hi := 127) rfl rfl rfl (by decide) (by omega) ⟨_, rfl, ifF (by decide) ⟨G, hG, _, g5, ifT (by rw [he]; rfl) ⟨rfl, hA.up, zFr.rf⟩⟩⟩)
  · have fin : ∃ y : Int32, some (Value.int (-1)) = some (.int y) ∧ zFr up8 h h ∧ (∃ G, h.2 139 = zO 10 G) ∧ zW (d + 9) m_Mo_feed h.1 0 [.ref 139, .int x] [] h (fun r2 h2 => r2 = some (.int y) ∧ AB h2 (k + 1) ∧ zFr up8 h h2) := ⟨_, rfl, zFr.rf, ⟨G, hG⟩, b_Mo_feed_0 (mR_n (N := 127) (hi := 127) rfl rfl rfl (by decide) hx ⟨_, rfl, ifT rfl ⟨rfl, hA.up, zFr.rf⟩⟩)⟩
    refine b_BL_feed_0 (ifB (fun _ => fin) (fun c => ifF (fun w => ?_) fin))
    have := Int32.le_trans ((qR_n (by decide) hx).resolve_left c) w
    exact absurd this (by decide)
theorem P_end (hA : AB h k) (x : Int32) : PRi (d + 9) h k m_BL_end [.ref 8, .int x, zD] m_Mo_end [.ref 139, .int x, zD] := by
  obtain ⟨B, t, I, H, f, o, hC, hM, iB, iT, iI, iH⟩ := id hA
  obtain ⟨⟨F, hF, hR, f10, f11⟩, ⟨hrd, hdB, hT⟩, -⟩ := id hC
  obtain ⟨⟨G, hG, gR, g5, g10, g30⟩, hm, hs, hyI, hmt, hyH⟩ := id hM
  have ht1 := iT.1
  unfold PRi
  obtain ⟨⟨F5, hF5, f50, f51⟩, T0, hT0, hT02⟩ := id hT
  rcases qR_dec (t.1 + 1) x with ⟨j, hj, rfl⟩ | hx
  · refine b_BL_end_0 (ifF (nI_pos (by omega)) ⟨F, hF, _, hR.2.1, F5, hF5, _, f50, ifT (nI_le (by omega) (by omega)) ⟨F, hF, _, hR.2.1, F5, hF5, _, f50, F, hF, _, hR.2.1, F5, hF5, ?_⟩⟩)
    rintro h12 rfl
    have fr1 : zFr (fun z => z = 10) h (zP h 10 (zO 5 (zU F5 0 (.int (nI j))))) := zFr.put rfl
    have hM1 := hM.fr fr1 (fun z hz => by rw [hz]; decide)
    obtain ⟨⟨G1, hG1, gR1, g51, g101, g301⟩, hm1, hs1, hyI1, ⟨T1, hT1, hT12⟩, hyH1⟩ := id hM1
    refine ⟨_, rfl, fr1.sub (fun z hz => by rw [hz]; decide), ⟨_, hG1⟩, b_Mo_end_0 ⟨G1, hG1, _, g51, mR_y (N := t.1) rfl rfl rfl (by omega) (by omega) ⟨_, rfl, ifF (by decide) ⟨G1, hG1, _, g51, G1, hG1, ?_⟩⟩⟩⟩
    rintro h9 rfl
    have fr2 : zFr (fun z => z = 139) (zP h 10 (zO 5 (zU F5 0 (.int (nI j))))) (zP (zP h 10 (zO 5 (zU F5 0 (.int (nI j))))) 139 (zO 10 (zU G1 5 (.int (nI j))))) := zFr.put rfl
    refine ⟨rfl, ⟨B, (j, t.2), I, H, f, o, ?_, ?_, iB, ⟨by show j ≤ 300; omega, fun i hi => iT.2 i (Nat.lt_of_lt_of_le hi (by omega))⟩, iI, iH⟩, (fr1.sub (fun z hz => by rw [hz]; decide)).trans (fr2.sub (fun z hz => by rw [hz]; decide))⟩
    · refine CA.fr (CA.up (CA.tx hC fr1 (fun z hz => by rw [hz]; decide) ⟨?_, ?_, ⟨⟨_, zP_same _ _ _, rfl, f51⟩, T0, (zP_ne _ _ (by decide)).trans hT0, fun i hi => hT02 i (Nat.lt_of_lt_of_le hi (by omega))⟩⟩) (by omega)) fr2 (fun z hz => by rw [hz]; decide)
      · rw [fr1 9 (by decide)]; exact hrd
      · obtain ⟨a, b, c, s, w⟩ := hdB
        exact ⟨a, b, c, s, w.fr fr1 (by decide) (by decide)⟩
    · exact ⟨⟨_, zP_same _ _ _, mR_of gR1 (fun i hi => zU_ne _ _ (by omega)), rfl, g101, g301⟩, hm1.fr fr2 (by decide), hs1.fr fr2 (fun z hz w => by have w : z = 139 := w; omega), hyI1.fr fr2 (by decide) (by decide), ⟨T1, (zP_ne _ _ (by decide)).trans hT1, fun i hi => hT12 i (Nat.lt_of_lt_of_le hi (by omega))⟩, hyH1.fr fr2 (by decide) (by decide) (by decide)⟩
  · have fin : ∃ y : Int32, some (Value.int (-1)) = some (.int y) ∧ zFr up8 h h ∧ (∃ G, h.2 139 = zO 10 G) ∧ zW (d + 9) m_Mo_end h.1 0 [.ref 139, .int x, zD] [] h (fun r2 h2 => r2 = some (.int y) ∧ AB h2 (k + 1) ∧ zFr up8 h h2) := ⟨_, rfl, zFr.rf, ⟨G, hG⟩, b_Mo_end_0 ⟨G, hG, _, g5, mR_n (N := t.1) rfl rfl rfl (by omega) hx ⟨_, rfl, ifT rfl ⟨rfl, hA.up, zFr.rf⟩⟩⟩⟩
    refine b_BL_end_0 (ifB (fun _ => fin) (fun c => ⟨F, hF, _, hR.2.1, F5, hF5, _, f50, ifF (fun w => ?_) fin⟩))
    have := Int32.le_trans ((qR_n (by omega) hx).resolve_left c) w
    rw [nI_leI (by omega) (by omega)] at this
    omega
theorem P_fault (hA : AB h k) : PRi (d + 9) h k m_BL_fault [.ref 8] m_Mo_fault [.ref 139] := by
  obtain ⟨B, t, I, H, f, o, ⟨⟨F, hF, hR, f10, f11⟩, -⟩, ⟨⟨G, hG, gR, g5, g10, g30⟩, -⟩, -⟩ := id hA
  exact b_BL_fault_0 ⟨F, hF, _, f10, _, rfl, zFr.rf, ⟨G, hG⟩, b_Mo_fault_0 ⟨G, hG, _, g10, rfl, hA.up, zFr.rf⟩⟩
theorem P_ok (hA : AB h k) : PRi (d + 9) h k m_BL_ok [.ref 8] m_Mo_ok [.ref 139] := by
  obtain ⟨B, t, I, H, f, o, ⟨⟨F, hF, hR, f10, f11⟩, -⟩, ⟨⟨G, hG, gR, g5, g10, g30⟩, -⟩, -⟩ := id hA
  exact b_BL_ok_0 ⟨F, hF, _, f11, _, rfl, zFr.rf, ⟨G, hG⟩, b_Mo_ok_0 ⟨G, hG, _, g30, rfl, hA.up, zFr.rf⟩⟩
theorem P_stamp (hA : AB h k) (x y : Int32) : PRi (d + 9) h k m_BL_stamp [.ref 8, .int x, .int y] m_Mo_stamp [.ref 139, .int x, .int y] := by
  obtain ⟨B, t, I, H, f, o, hC, hM, iB, iT, iI, iH⟩ := id hA
  obtain ⟨⟨F, hF, hR, f10, f11⟩, -, ⟨hbk, -⟩, -⟩ := id hC
  obtain ⟨⟨G, hG, gR, g5, g10, g30⟩, hm, -⟩ := id hM
  have hN := iB.1.2
  unfold PRi
  rcases qR_dec 16 x with ⟨b, hb, rfl⟩ | hx
  · rcases qR_dec B.1 y with ⟨r, hr, rfl⟩ | hy
    · obtain ⟨st, hst, st0, st1, st2, st3⟩ := id hm
      refine b_BL_stamp_0 (xB_y hb ⟨_, rfl, ifF (by decide) ⟨F, hF, _, hR.2.2.2.1, hbk.1.imp fun _ w => w.1, cB_has_y hbk hN hr ⟨_, rfl, ifF (by decide) ⟨F, hF, _, hR.2.2.2.1, hbk.1.imp fun _ w => w.1, cB_stampAt hbk (by omega) hb ⟨_, rfl, _, rfl, zFr.rf, ⟨G, hG⟩, ?_⟩⟩⟩⟩⟩)
      refine b_Mo_stamp_0 (mB_y hb ⟨_, rfl, ifF (by decide) ⟨⟨G, hG⟩, mC_y hG gR hm hN hr ⟨_, rfl, ifF (by decide) ⟨G, hG, _, gR.1, cM_at ⟨_, rfl, 115, st, hst, zIn_nI (by omega) (by decide), ?_⟩⟩⟩⟩⟩)
      rw [nI_clamp (by omega), st3 _ (by omega)]
      exact ⟨rfl, hA.up, zFr.rf⟩
    · exact b_BL_stamp_0 (xB_y hb ⟨_, rfl, ifF (by decide) ⟨F, hF, _, hR.2.2.2.1, hbk.1.imp fun _ w => w.1, cB_has_n hbk hN hy ⟨_, rfl, ifT rfl ⟨_, rfl, zFr.rf, ⟨G, hG⟩, b_Mo_stamp_0 (mB_y hb ⟨_, rfl, ifF (by decide) ⟨⟨G, hG⟩, mC_n hG gR hm hN hy ⟨_, rfl, ifT rfl ⟨rfl, hA.up, zFr.rf⟩⟩⟩⟩)⟩⟩⟩⟩)
  · exact b_BL_stamp_0 (xB_n hx ⟨_, rfl, ifT rfl ⟨_, rfl, zFr.rf, ⟨G, hG⟩, b_Mo_stamp_0 (mB_n hx ⟨_, rfl, ifT rfl ⟨rfl, hA.up, zFr.rf⟩⟩)⟩⟩)
theorem cX_replace {F : Nat → Value} {n l q v : Int32} {S : Nat → Int32} {nw r b : Nat} (hF : h.2 8 = zO 9 F) (hR : blR F) (hb : bkA h 15 n l q S) (hw : wbA h S l q nw) (hnw : nw < 2 ^ 30) (hr : r < 7) (hbb : b < 16)
    (K : ∀ h', bkA h' 15 n l q (zU S (16 * r + b) v) → wbA h' (zU S (16 * r + b) v) l q (nw + 1) → zFr (fun z => z = 14 ∨ z = 16 ∨ z = 18) h h' → Q (some (.int (S (16 * r + b)))) h') : zW (d + 2) m_BL_replaceStamp e 0 [.ref 8, .int (nI b), .int (nI r), .int v, zD] [] h Q := by
  refine b_BL_replaceStamp_0 ⟨F, hF, _, hR.2.2.2.1, hb.1.imp fun _ w => w.1, cB_stampAt hb hr hbb ⟨_, rfl, F, hF, _, hR.2.2.2.1, hb.1.imp fun _ w => w.1, cB_putStamp hb hr hbb (fun h1 hb1 hf1 => ⟨rfl, F, (hf1 8 (by decide)).trans hF, _, hR.2.2.1, ?_⟩)⟩⟩
  have hw1 := hw.fr hf1 (fun z hz w => by have hz : z = 15 + 1 := hz; omega)
  obtain ⟨⟨⟨F8, hF8, w8⟩, w17⟩, -⟩ := id hw1
  refine ⟨⟨F8, hF8⟩, cW_touch hw1 hr hnw (fun r2 _ hne => rowE_put hbb hne) (fun h2 hw2 hf2 => ⟨rfl, K h2 (hb1.fr hf2 (by decide) (by decide)) hw2 ?_⟩)⟩
  exact (hf1.sub (fun z hz => Or.inr (Or.inl hz))).trans (hf2.sub (fun z hz => by rcases hz with hz | hz; exact Or.inl hz; exact Or.inr (Or.inr hz)))
theorem hear_end {B : bkT} {t : tpT} {I : imT} {H : shT} {f o v : Int32} {r b : Nat} {h1 : zH} {nw : Nat} (hC : CA h k B t I H f o) (hM : MA h B t I H f o) (iB : bkI B) (iT : tpI t) (iI : imI I) (iH : shI H) (hr : r < 7) (hb : b < 16) (hv : v = -4 ∨ (0 ≤ v ∧ v ≤ 9999)) (hnw : nw ≤ k)
    (hb1 : bkA h1 15 (nI B.1) B.2.1 B.2.2.1 (zU B.2.2.2 (16 * r + b) v)) (hw1 : wbA h1 (zU B.2.2.2 (16 * r + b) v) B.2.1 B.2.2.1 (nw + 1)) (hf1 : zFr (fun z => z = 14 ∨ z = 16 ∨ z = 18) h h1) {st : Nat → Int32} (hst : h1.2 140 = zI 0 115 st) (hm2 : msA (zP h1 140 (zI 0 115 (zU st (3 + (16 * r + b)) v))) (nI B.1) B.2.1 B.2.2.1 (zU B.2.2.2 (16 * r + b) v)) :
    AB (zP h1 140 (zI 0 115 (zU st (3 + (16 * r + b)) v))) (k + 1) ∧ zFr up8 h (zP h1 140 (zI 0 115 (zU st (3 + (16 * r + b)) v))) := by
  have fr2 : zFr (fun z => z = 140) h1 (zP h1 140 (zI 0 115 (zU st (3 + (16 * r + b)) v))) := zFr.put rfl
  refine ⟨⟨(B.1, B.2.1, B.2.2.1, zU B.2.2.2 (16 * r + b) v), t, I, H, f, o, ?_, ?_, ⟨iB.1, iB.2.1, iB.2.2.1, fun i hi => ?_⟩, iT, iI, iH⟩, (hf1.sub (fun z hz => by rcases hz with rfl | rfl | rfl <;> decide)).trans (fr2.sub (fun z hz => by rw [hz]; decide))⟩
  · refine CA.fr (CA.wb hC hf1 (fun z hz => by rcases hz with rfl | rfl | rfl <;> decide) ⟨hb1, ⟨nw + 1, by omega, hw1⟩, hC.2.2.1.2.2.fr hf1 (fun z hz w => by have hz : z = 14 ∨ z = 16 ∨ z = 18 := hz; omega)⟩) fr2 (fun z hz => by rw [hz]; decide)
  · exact MA.st (hM.fr hf1 (fun z hz => by rcases hz with rfl | rfl | rfl <;> decide)) fr2 (fun z hz => hz) hm2
  · show zU B.2.2.2 (16 * r + b) v i = -4 ∨ (0 ≤ zU B.2.2.2 (16 * r + b) v i ∧ zU B.2.2.2 (16 * r + b) v i ≤ 9999)
    unfold zU
    split
    · exact hv
    · exact iB.2.2.2 i hi
theorem P_hear (hA : AB h k) (hk : k < 2 ^ 29) (x y v : Int32) : PRi (d + 9) h k m_BL_hear [.ref 8, .int x, .int y, .int v] m_Mo_hear [.ref 139, .int x, .int y, .int v, zD] := by
  obtain ⟨B, t, I, H, f, o, hC, hM, iB, iT, iI, iH⟩ := id hA
  obtain ⟨⟨F, hF, hR, f10, f11⟩, -, ⟨hbk, ⟨nw, hnw, hw⟩, hch⟩, -⟩ := id hC
  obtain ⟨⟨G, hG, gR, g5, g10, g30⟩, hm, -⟩ := id hM
  have hN := iB.1.2
  unfold PRi
  rcases qR_dec 16 x with ⟨b, hb, rfl⟩ | hx
  · rcases qR_dec B.1 y with ⟨r, hr, rfl⟩ | hy
    · by_cases hv : 0 ≤ v ∧ v ≤ 9999
      · refine b_BL_hear_0 (xB_y hb ⟨_, rfl, ifF (by decide) ⟨F, hF, _, hR.2.2.2.1, hbk.1.imp fun _ w => w.1, cB_has_y hbk hN hr ⟨_, rfl, ifF (by decide) (ifF (Int32.not_lt.mpr hv.1) (ifT hv.2 ⟨⟨F, hF⟩, cX_replace hF hR hbk hw (by omega) (by omega) hb (fun h1 hb1 hw1 hf1 => ⟨_, rfl, _, rfl, hf1.sub (fun z hz => by rcases hz with rfl | rfl | rfl <;> decide), ⟨G, (hf1 _ (by decide)).trans hG⟩, ?_⟩)⟩))⟩⟩⟩)
        have hM1 := hM.fr hf1 (fun z hz => by rcases hz with rfl | rfl | rfl <;> decide)
        obtain ⟨⟨G1, hG1, gR1, -⟩, hm1, -⟩ := id hM1
        obtain ⟨st, hst, hm2⟩ := msA.put (v := v) hm1 (show r < 7 by omega) hb
        obtain ⟨st', hst', -, -, -, st3⟩ := id hm1
        have es : st' = st := zI_inj (hst'.symm.trans hst)
        refine b_Mo_hear_0 (mB_y hb ⟨_, rfl, ifF (by decide) ⟨⟨G1, hG1⟩, mC_y hG1 gR1 hm1 hN hr ⟨_, rfl, ifF (by decide) (mI_y (lo := 0) (hi := 9999) rfl rfl hv ⟨_, rfl, ifF (by decide) ⟨G1, hG1, _, gR1.1, cM_at ⟨_, rfl, 115, st, hst, zIn_nI (by omega) (by decide), G1, hG1, _, gR1.1, cM_at ⟨_, rfl, 115, st, hst, zIn_nI (by omega) (by decide), ?_⟩⟩⟩⟩)⟩⟩⟩)
        rintro h24 rfl
        rw [nI_clamp (by omega), ← es, st3 _ (by omega), es]
        exact ⟨rfl, hear_end hC hM iB iT iI iH (by omega) hb (Or.inr hv) hnw hb1 hw1 hf1 hst hm2⟩
      · have fin : ∃ z : Int32, some (Value.int (-1)) = some (.int z) ∧ zFr up8 h h ∧ (∃ G, h.2 139 = zO 10 G) ∧ zW (d + 9) m_Mo_hear h.1 0 [.ref 139, .int (nI b), .int (nI r), .int v, zD] [] h (fun r2 h2 => r2 = some (.int z) ∧ AB h2 (k + 1) ∧ zFr up8 h h2) := ⟨_, rfl, zFr.rf, ⟨G, hG⟩, b_Mo_hear_0 (mB_y hb ⟨_, rfl, ifF (by decide) ⟨⟨G, hG⟩, mC_y hG gR hm hN hr ⟨_, rfl, ifF (by decide) (mI_n (lo := 0) (hi := 9999) rfl rfl hv ⟨_, rfl, ifT rfl ⟨rfl, hA.up, zFr.rf⟩⟩)⟩⟩⟩)⟩
        exact b_BL_hear_0 (xB_y hb ⟨_, rfl, ifF (by decide) ⟨F, hF, _, hR.2.2.2.1, hbk.1.imp fun _ w => w.1, cB_has_y hbk hN hr ⟨_, rfl, ifF (by decide) (ifB (fun _ => fin) (fun c => ifF (fun w => hv ⟨Int32.not_lt.mp c, w⟩) fin))⟩⟩⟩)
    · exact b_BL_hear_0 (xB_y hb ⟨_, rfl, ifF (by decide) ⟨F, hF, _, hR.2.2.2.1, hbk.1.imp fun _ w => w.1, cB_has_n hbk hN hy ⟨_, rfl, ifT rfl ⟨_, rfl, zFr.rf, ⟨G, hG⟩, b_Mo_hear_0 (mB_y hb ⟨_, rfl, ifF (by decide) ⟨⟨G, hG⟩, mC_n hG gR hm hN hy ⟨_, rfl, ifT rfl ⟨rfl, hA.up, zFr.rf⟩⟩⟩⟩)⟩⟩⟩⟩)
  · exact b_BL_hear_0 (xB_n hx ⟨_, rfl, ifT rfl ⟨_, rfl, zFr.rf, ⟨G, hG⟩, b_Mo_hear_0 (mB_n hx ⟨_, rfl, ifT rfl ⟨rfl, hA.up, zFr.rf⟩⟩)⟩⟩)
theorem P_lose (hA : AB h k) (hk : k < 2 ^ 29) (x y : Int32) : PRi (d + 9) h k m_BL_lose [.ref 8, .int x, .int y] m_Mo_lose [.ref 139, .int x, .int y, zD] := by
  obtain ⟨B, t, I, H, f, o, hC, hM, iB, iT, iI, iH⟩ := id hA
  obtain ⟨⟨F, hF, hR, f10, f11⟩, -, ⟨hbk, ⟨nw, hnw, hw⟩, hch⟩, -⟩ := id hC
  obtain ⟨⟨G, hG, gR, g5, g10, g30⟩, hm, -⟩ := id hM
  have hN := iB.1.2
  unfold PRi
  rcases qR_dec 16 x with ⟨b, hb, rfl⟩ | hx
  · rcases qR_dec B.1 y with ⟨r, hr, rfl⟩ | hy
    · refine b_BL_lose_0 (xB_y hb ⟨_, rfl, ifF (by decide) ⟨F, hF, _, hR.2.2.2.1, hbk.1.imp fun _ w => w.1, cB_has_y hbk hN hr ⟨_, rfl, ifF (by decide) ⟨⟨F, hF⟩, cX_replace hF hR hbk hw (by omega) (by omega) hb (fun h1 hb1 hw1 hf1 => ⟨_, rfl, _, rfl, hf1.sub (fun z hz => by rcases hz with rfl | rfl | rfl <;> decide), ⟨G, (hf1 _ (by decide)).trans hG⟩, ?_⟩)⟩⟩⟩⟩)
      have hM1 := hM.fr hf1 (fun z hz => by rcases hz with rfl | rfl | rfl <;> decide)
      obtain ⟨⟨G1, hG1, gR1, -⟩, hm1, -⟩ := id hM1
      obtain ⟨st, hst, hm2⟩ := msA.put (v := -4) hm1 (show r < 7 by omega) hb
      obtain ⟨st', hst', -, -, -, st3⟩ := id hm1
      have es : st' = st := zI_inj (hst'.symm.trans hst)
      refine b_Mo_lose_0 (mB_y hb ⟨_, rfl, ifF (by decide) ⟨⟨G1, hG1⟩, mC_y hG1 gR1 hm1 hN hr ⟨_, rfl, ifF (by decide) ⟨G1, hG1, _, gR1.1, cM_at ⟨_, rfl, 115, st, hst, zIn_nI (by omega) (by decide), G1, hG1, _, gR1.1, cM_at ⟨_, rfl, 115, st, hst, zIn_nI (by omega) (by decide), ?_⟩⟩⟩⟩⟩⟩)
      rintro h24 rfl
      rw [nI_clamp (by omega), ← es, st3 _ (by omega), es]
      exact ⟨rfl, hear_end hC hM iB iT iI iH (by omega) hb (Or.inl rfl) hnw hb1 hw1 hf1 hst hm2⟩
    · exact b_BL_lose_0 (xB_y hb ⟨_, rfl, ifF (by decide) ⟨F, hF, _, hR.2.2.2.1, hbk.1.imp fun _ w => w.1, cB_has_n hbk hN hy ⟨_, rfl, ifT rfl ⟨_, rfl, zFr.rf, ⟨G, hG⟩, b_Mo_lose_0 (mB_y hb ⟨_, rfl, ifF (by decide) ⟨⟨G, hG⟩, mC_n hG gR hm hN hy ⟨_, rfl, ifT rfl ⟨rfl, hA.up, zFr.rf⟩⟩⟩⟩)⟩⟩⟩⟩)
  · exact b_BL_lose_0 (xB_n hx ⟨_, rfl, ifT rfl ⟨_, rfl, zFr.rf, ⟨G, hG⟩, b_Mo_lose_0 (mB_n hx ⟨_, rfl, ifT rfl ⟨rfl, hA.up, zFr.rf⟩⟩)⟩⟩)
end C
