/-! The class answers as the Model does: sheet, lay, count -/
theorem shA.to {h : zH} {a : Nat} {sz ln : Int32} {C C' : Nat → Int64} (b : shA h a sz ln C) (hC : ∀ k, k < 48 → C k = C' k) : shA h a sz ln C' := by
  obtain ⟨q, C0, h1, h2⟩ := b
  exact ⟨q, C0, h1, fun k hk => (h2 k hk).trans (hC k hk)⟩
theorem ix48 (k c : Nat) : (48 : Int32) * nI k + nI c = nI (48 * k + c) := by
  rw [show (48 : Int32) = nI 48 from rfl, pk_mul, nI_add]
section C
variable {d : Nat} {e : Nat × Nat} {h : zH} {Q : zQ} {k : Nat}
theorem cM_sheet40 {G : Nat → Value} {i : Nat} {g0 : Nat → Int32} (hG : h.2 139 = zO 10 G) (gR : mR G) (hg : h.2 155 = zI 0 192 g0) (hi : i < 4)
    (K : ∀ g, (∀ c, c < 48 → g (48 * i + c) = 0) → (∀ j, j < 48 * i ∨ 48 * i + 48 ≤ j → g j = g0 j) → Q (some (.int 1)) (zP h 155 (zI 0 192 g))) : zW (d + 1) m_Mo_sheet e 40 [.ref 139, .int (nI i), zD, zD, .int 0] [] h Q := by
  have loop : ∀ j c (g : Nat → Int32), c + j = 48 → (∀ c', c' < c → g (48 * i + c') = 0) → (∀ j, j < 48 * i ∨ 48 * i + 48 ≤ j → g j = g0 j) → zW (d + 1) m_Mo_sheet e 40 [.ref 139, .int (nI i), zD, zD, .int (nI c)] [] (zP h 155 (zI 0 192 g)) Q := by
    intro j
    induction j with
    | zero =>
      intro c g hj h1 h2
      have : c = 48 := by omega
      subst this
      exact b_Mo_sheet_40 (ifT (show nI 48 ≤ nI 48 from Int32.le_refl _) (K g h1 h2))
    | succ j ih =>
      intro c g hj h1 h2
      refine b_Mo_sheet_40 (ifF (show ¬ nI 48 ≤ nI c from nI_ge (by omega) (by decide)) ⟨G, (zP_ne _ _ (by decide)).trans hG, _, gR.2.2.2.2.2.2.2.2.2.2.2.2.2.2.2, 192, g, zP_same _ _ _, ?_, ?_⟩)
      · rw [ix48]; exact zIn_nI (by omega) (by decide)
      · rintro h5 rfl
        rw [zP_zP, nI_1, ix48, nI_clamp (by omega)]
        refine ih (c + 1) _ (by omega) (fun c' hc' => ?_) (fun j hj => by rw [zU_ne _ _ (by omega)]; exact h2 j hj)
        by_cases ec : c' = c
        · rw [ec, zU_same]
        · rw [zU_ne _ _ (by omega)]; exact h1 c' (by omega)
  have := loop 48 0 g0 rfl (fun c hc => by omega) (fun j _ => rfl)
  rw [zP_self hg] at this
  exact this
theorem P_sheet (hA : AB h k) (x y v : Int32) : PRi (d + 9) h k m_BL_sheet [.ref 8, .int x, .int y, .int v] m_Mo_sheet [.ref 139, .int x, .int y, .int v, zD] := by
  obtain ⟨B, t, I, H, f, o, hC, hM, iB, iT, iI, iH⟩ := id hA
  obtain ⟨⟨F, hF, hR, f10, f11⟩, -, -, -, -, ⟨⟨ga, hga, ga2⟩, hsh⟩⟩ := id hC
  obtain ⟨⟨G, hG, gR, g5, g10, g30⟩, hm, hs, hyI, hmt, ⟨⟨l0, hl0, hl02⟩, ⟨z0, hz0, hz02⟩, c0, hc0, hc02⟩⟩ := id hM
  unfold PRi
  rcases qR_dec 4 x with ⟨i, hi, rfl⟩ | hx
  · rcases qR_dec 3 y with ⟨lj, hlj, rfl⟩ | hy
    · by_cases hv : v ≤ 48
      · by_cases hv0 : 0 ≤ v
        · obtain ⟨m, hm48, rfl⟩ := nI_of2 (M := 48) (n := 48) rfl (Int32.not_lt.mpr hv0) hv
          have hs1 := hsh i hi
          refine b_BL_sheet_0 (xS_y hi ⟨_, rfl, ifF (by decide) (xL_y hlj ⟨_, rfl, ifF (by decide) (ifT hv (ifT hv0 ⟨F, hF, _, hR.2.2.2.2.2.2.2.2.2, 4, ga, hga, zIn_nI hi (by decide), 131 + 2 * i, by rw [nI_clamp (by omega)]; exact ga2 i hi, hs1.1.imp fun _ w => w.1, cS_renew hs1 (fun h1 hs2 hf1 => ⟨rfl, _, rfl, ?_⟩)⟩))⟩)⟩)
          have rg : ∀ z, (z = 131 + 2 * i ∨ z = 131 + 2 * i + 1) → 131 ≤ z ∧ z < 139 := fun z hz => by omega
          have hG1 : h1.2 139 = zO 10 G := (hf1 _ (by omega)).trans hG
          refine ⟨hf1.sub (fun z hz => by have := rg z hz; show 8 ≤ z; omega), ⟨G, hG1⟩, b_Mo_sheet_0 (mSh_y hi hlj ⟨_, rfl, ifF (by decide) (ifT hv (ifT hv0 ⟨G, hG1, _, gR.2.2.2.2.2.2.2.2.2.2.2.2.2.1, 4, l0, (hf1 _ (by omega)).trans hl0, zIn_nI hi (by decide), ?_⟩))⟩)⟩
          rintro h8 rfl
          refine ⟨G, (zP_ne _ _ (by decide)).trans hG1, _, gR.2.2.2.2.2.2.2.2.2.2.2.2.2.2.1, 4, z0, (zP_ne _ _ (by decide)).trans ((hf1 _ (by omega)).trans hz0), zIn_nI hi (by decide), ?_⟩
          rintro h13 rfl
          rw [nI_clamp (by omega)]
          refine cM_sheet40 (i := i) (g0 := c0) ((zP_ne _ _ (by decide)).trans ((zP_ne _ _ (by decide)).trans hG1)) gR ((zP_ne _ _ (by decide)).trans ((zP_ne _ _ (by decide)).trans ((hf1 _ (by omega)).trans hc0))) hi (fun g hg1 hg2 => ?_)
          have fr3 : zFr (fun z => z = 153 ∨ z = 154 ∨ z = 155) h1 (zP (zP (zP h1 153 (zI 0 4 (zU l0 i (nI lj)))) 154 (zI 0 4 (zU z0 i (nI m)))) 155 (zI 0 192 g)) := ((zFr.put (Or.inl rfl)).trans (zFr.put (Or.inr (Or.inl rfl)))).trans (zFr.put (Or.inr (Or.inr rfl)))
          have hn1 : ¬ nI m = -1 := fun w => by have := congrArg Int32.toInt w; rw [nI_toInt (by omega), show (-1 : Int32).toInt = -1 from rfl] at this; omega
          refine ⟨rfl, ⟨B, t, I, zU H i (nI m, nI lj, fun _ => 0), f, o, ?_, ?_, iB, iT, iI, fun j hj => ?_⟩, ?_⟩
          · refine CA.fr (CA.sh (hC.up (by omega)) hf1 rg ⟨⟨ga, (hf1 _ (by omega)).trans hga, ga2⟩, fun j hj => ?_⟩) fr3 (fun z hz => by have hz : z = 153 ∨ z = 154 ∨ z = 155 := hz; omega)
            by_cases ej : j = i
            · rw [ej, zU_same]; exact hs2
            · rw [zU_ne _ _ ej]; exact (hsh j hj).fr hf1 (by omega) (by omega)
          · refine MA.shs (hM.fr hf1 (fun z hz => by have := rg z hz; omega)) fr3 (fun z hz => by have hz : z = 153 ∨ z = 154 ∨ z = 155 := hz; omega) ⟨⟨_, (zP_ne _ _ (by decide)).trans ((zP_ne _ _ (by decide)).trans (zP_same _ _ _)), fun j hj => ?_⟩, ⟨_, (zP_ne _ _ (by decide)).trans (zP_same _ _ _), fun j hj => ?_⟩, _, zP_same _ _ _, fun j hj c hc => ?_⟩
            · by_cases ej : j = i
              · rw [ej, zU_same, zU_same, if_neg hn1]
              · rw [zU_ne _ _ ej, zU_ne _ _ ej]; exact hl02 j hj
            · by_cases ej : j = i
              · rw [ej, zU_same, zU_same]; exact fun _ => rfl
              · rw [zU_ne _ _ ej, zU_ne _ _ ej]; exact hz02 j hj
            · by_cases ej : j = i
              · rw [ej, zU_same]; exact hg1 c hc
              · rw [zU_ne _ _ ej, hg2 _ (by omega)]; exact hc02 j hj c hc
          · by_cases ej : j = i
            · rw [ej, zU_same]; exact Or.inr ⟨⟨m, hm48, rfl⟩, lj, hlj, rfl⟩
            · rw [zU_ne _ _ ej]; exact iH j hj
          · exact (hf1.sub (fun z hz => by have := rg z hz; show 8 ≤ z; omega)).trans (fr3.sub (fun z hz => by have hz : z = 153 ∨ z = 154 ∨ z = 155 := hz; show 8 ≤ z; omega))
        · exact b_BL_sheet_0 (xS_y hi ⟨_, rfl, ifF (by decide) (xL_y hlj ⟨_, rfl, ifF (by decide) (ifT hv (ifF hv0 ⟨_, rfl, zFr.rf, ⟨G, hG⟩, b_Mo_sheet_0 (mSh_y hi hlj ⟨_, rfl, ifF (by decide) (ifT hv (ifF hv0 ⟨rfl, hA.up, zFr.rf⟩))⟩)⟩))⟩)⟩)
      · exact b_BL_sheet_0 (xS_y hi ⟨_, rfl, ifF (by decide) (xL_y hlj ⟨_, rfl, ifF (by decide) (ifF hv ⟨_, rfl, zFr.rf, ⟨G, hG⟩, b_Mo_sheet_0 (mSh_y hi hlj ⟨_, rfl, ifF (by decide) (ifF hv ⟨rfl, hA.up, zFr.rf⟩)⟩)⟩)⟩)⟩)
    · exact b_BL_sheet_0 (xS_y hi ⟨_, rfl, ifF (by decide) (xL_n hy ⟨_, rfl, ifT rfl ⟨_, rfl, zFr.rf, ⟨G, hG⟩, b_Mo_sheet_0 (mSh_n2 hi hy ⟨_, rfl, ifT rfl ⟨rfl, hA.up, zFr.rf⟩⟩)⟩⟩)⟩)
  · exact b_BL_sheet_0 (xS_n hx ⟨_, rfl, ifT rfl ⟨_, rfl, zFr.rf, ⟨G, hG⟩, b_Mo_sheet_0 (mSh_n1 hx ⟨_, rfl, ifT rfl ⟨rfl, hA.up, zFr.rf⟩⟩)⟩⟩)
/-- cells of a sheet: both bounds -/
theorem cell_in {m : Nat} {x : Int32} (hm : m ≤ 48) : (¬ x < 0 ∧ x < nI m) ↔ qR m x := by
  constructor
  · rintro ⟨h1, h2⟩
    rcases pk_ix x (n := m) (by omega) with q | q | q
    · exact absurd q h1
    · exact absurd h2 (Int32.not_lt.mpr q)
    · exact q
  · rintro ⟨j, hj, rfl⟩
    exact ⟨nI_pos (by omega), nI_lt hj (by omega)⟩
theorem cell_in2 {m : Nat} {x : Int32} (hm : m ≤ 48) : (0 ≤ x ∧ x ≤ nI m - 1) ↔ qR m x := by
  have e1 : (nI m - 1).toInt = (m : Int) - 1 := by
    rw [Int32.toInt_sub, nI_toInt (by omega), show (1 : Int32).toInt = 1 from rfl]
    exact Int.bmod_eq_of_le_mul_two (by omega) (by omega)
  rw [← qR_int (N := m) (by omega), Int32.le_iff_toInt_le, Int32.le_iff_toInt_le, e1, show (0 : Int32).toInt = 0 from rfl]
  omega
theorem P_lay (hA : AB h k) (x y v : Int32) : PRi (d + 9) h k m_BL_lay [.ref 8, .int x, .int y, .int v, zD] m_Mo_lay [.ref 139, .int x, .int y, .int v] := by
  obtain ⟨B, t, I, H, f, o, hC, hM, iB, iT, iI, iH⟩ := id hA
  obtain ⟨⟨F, hF, hR, f10, f11⟩, -, -, -, -, ⟨⟨ga, hga, ga2⟩, hsh⟩⟩ := id hC
  obtain ⟨⟨G, hG, gR, g5, g10, g30⟩, hm, hs, hyI, hmt, ⟨⟨l0, hl0, hl02⟩, ⟨z0, hz0, hz02⟩, c0, hc0, hc02⟩⟩ := id hM
  unfold PRi
  rcases qR_dec 4 x with ⟨i, hi, rfl⟩ | hx
  · have hs1 := hsh i hi
    have os : ∃ F, h.2 (131 + 2 * i) = zO 4 F := hs1.1.imp fun _ w => w.1
    refine b_BL_lay_0 (xS_y hi ⟨_, rfl, ifF (by decide) ⟨F, hF, _, hR.2.2.2.2.2.2.2.2.2, 4, ga, hga, zIn_nI hi (by decide), 131 + 2 * i, by rw [nI_clamp (by omega)]; exact ga2 i hi, os, cS_isNothing hs1 ⟨_, rfl, ?_⟩⟩⟩)
    rcases iH i hi with hn | ⟨⟨m, hm48, hsz⟩, lj, hlj, hln⟩
    · rw [if_pos hn]
      refine ifF (by decide) ⟨_, rfl, zFr.rf, ⟨G, hG⟩, b_Mo_lay_0 (mSh_y (lane := 0) hi (by decide) ⟨_, rfl, ifF (by decide) (b_Mo_lay_10 ⟨G, hG, _, gR.2.2.2.2.2.2.2.2.2.2.2.2.2.1, 4, l0, hl0, zIn_nI hi (by decide), ?_⟩)⟩)⟩
      rw [nI_clamp (by omega), hl02 i hi, if_pos hn]
      exact ifT rfl ⟨rfl, hA.up, zFr.rf⟩
    · have hn1 : ¬ (H i).1 = -1 := fun w => by rw [hsz] at w; have := congrArg Int32.toInt w; rw [nI_toInt (by omega), show (-1 : Int32).toInt = -1 from rfl] at this; omega
      have l4 : ¬ (if (H i).1 = -1 then (-4 : Int32) else (H i).2.1) = -4 := by rw [if_neg hn1, hln]; exact nI_m4 (by omega)
      rw [if_neg hn1]
      refine ifT rfl ⟨os, cS_hasCell hs1 ⟨_, rfl, ?_⟩⟩
      rw [hsz]
      rcases qR_dec m y with ⟨j, hj, rfl⟩ | hy
      · rw [if_pos ((cell_in hm48).mpr ⟨j, hj, rfl⟩)]
        refine ifF (by decide) ⟨os, cS_putCell hs1 (show j < 48 by omega) (fun h1 hs2 hf1 => ⟨rfl, _, rfl, ?_⟩)⟩
        have rg : ∀ z, (z = 131 + 2 * i + 1) → 131 ≤ z ∧ z < 139 := fun z hz => by omega
        have hG1 : h1.2 139 = zO 10 G := (hf1 _ (by omega)).trans hG
        have hl1 := (hf1 153 (by omega)).trans hl0
        have hc1 := (hf1 155 (by omega)).trans hc0
        have key : ∀ w : Int32, w = (if (H i).2.1 = 0 then v.toInt16.toInt32 else v) → ∀ h20, h20 = zP h1 155 (zI 0 192 (zU c0 (48 * i + j) w)) → (some (Value.int 1) = some (Value.int 1) ∧ AB h20 (k + 1) ∧ zFr up8 h h20) := by
          rintro w hw h20 rfl
          have fr3 : zFr (fun z => z = 155) h1 (zP h1 155 (zI 0 192 (zU c0 (48 * i + j) w))) := zFr.put rfl
          refine ⟨rfl, ⟨B, t, I, zU H i ((H i).1, (H i).2.1, zU (H i).2.2 j w), f, o, ?_, ?_, iB, iT, iI, fun j' hj' => ?_⟩, ?_⟩
          · refine CA.fr (CA.sh (hC.up (by omega)) hf1 rg ⟨⟨ga, (hf1 _ (by omega)).trans hga, ga2⟩, fun j' hj' => ?_⟩) fr3 (fun z hz => by rw [hz]; decide)
            by_cases ej : j' = i
            · rw [ej, zU_same]
              refine hs2.to (fun c hc => ?_)
              show zU _ j _ c = (zU (H i).2.2 j w c).toInt64
              by_cases ec : c = j
              · rw [ec, zU_same, zU_same, hw]
                split <;> rfl
              · rw [zU_ne _ _ ec, zU_ne _ _ ec]
            · rw [zU_ne _ _ ej]; exact (hsh j' hj').fr hf1 (by omega) (by omega)
          · refine MA.shs (hM.fr hf1 (fun z hz => by have := rg z hz; omega)) fr3 (fun z hz => by rw [hz]; decide) ⟨⟨l0, (zP_ne _ _ (by decide)).trans hl1, fun j' hj' => ?_⟩, ⟨z0, (zP_ne _ _ (by decide)).trans ((hf1 _ (by omega)).trans hz0), fun j' hj' => ?_⟩, _, zP_same _ _ _, fun j' hj' c hc => ?_⟩
            · by_cases ej : j' = i
              · rw [ej, zU_same]; exact hl02 i hi
              · rw [zU_ne _ _ ej]; exact hl02 j' hj'
            · by_cases ej : j' = i
              · rw [ej, zU_same]; exact hz02 i hi
              · rw [zU_ne _ _ ej]; exact hz02 j' hj'
            · by_cases ej : j' = i
              · rw [ej, zU_same]
                show zU c0 (48 * i + j) w (48 * i + c) = zU (H i).2.2 j w c
                by_cases ec : c = j
                · rw [ec, zU_same, zU_same]
                · rw [zU_ne _ _ ec, zU_ne _ _ (by omega)]; exact hc02 i hi c hc
              · rw [zU_ne _ _ ej, zU_ne _ _ (by omega)]; exact hc02 j' hj' c hc
          · by_cases ej : j' = i
            · rw [ej, zU_same]; exact Or.inr ⟨⟨m, hm48, hsz⟩, lj, hlj, hln⟩
            · rw [zU_ne _ _ ej]; exact iH j' hj'
          · exact (hf1.sub (fun z hz => by have := rg z hz; show 8 ≤ z; omega)).trans (fr3.sub (fun z hz => by rw [hz]; decide))
        refine ⟨hf1.sub (fun z hz => by have := rg z hz; show 8 ≤ z; omega), ⟨G, hG1⟩, b_Mo_lay_0 (mSh_y (lane := 0) hi (by decide) ⟨_, rfl, ifF (by decide) (b_Mo_lay_10 ⟨G, hG1, _, gR.2.2.2.2.2.2.2.2.2.2.2.2.2.1, 4, l0, hl1, zIn_nI hi (by decide), ?_⟩)⟩)⟩
        rw [nI_clamp (by omega), hl02 i hi]
        refine ifF l4 ⟨G, hG1, _, gR.2.2.2.2.2.2.2.2.2.2.2.2.2.2.1, 4, z0, (hf1 _ (by omega)).trans hz0, zIn_nI hi (by decide), ?_⟩
        rw [hz02 i hi hn1, hsz]
        refine mI_y (lo := 0) (hi := nI m - 1) rfl rfl ((cell_in2 hm48).mpr ⟨j, hj, rfl⟩) ⟨_, rfl, ifF (by decide) ⟨G, hG1, _, gR.2.2.2.2.2.2.2.2.2.2.2.2.2.2.2, G, hG1, _, gR.2.2.2.2.2.2.2.2.2.2.2.2.2.1, 4, l0, hl1, zIn_nI hi (by decide), ?_⟩⟩
        rw [hl02 i hi, if_neg hn1, ix48, nI_clamp (by omega)]
        exact ifB (fun c => ⟨192, c0, hc1, zIn_nI (by omega) (by decide), key _ (by rw [if_pos c])⟩) (fun c => ⟨192, c0, hc1, zIn_nI (by omega) (by decide), key _ (by rw [if_neg c])⟩)
      · rw [if_neg (mt (cell_in hm48).mp hy)]
        refine ifT rfl ⟨_, rfl, zFr.rf, ⟨G, hG⟩, b_Mo_lay_0 (mSh_y (lane := 0) hi (by decide) ⟨_, rfl, ifF (by decide) (b_Mo_lay_10 ⟨G, hG, _, gR.2.2.2.2.2.2.2.2.2.2.2.2.2.1, 4, l0, hl0, zIn_nI hi (by decide), ?_⟩)⟩)⟩
        rw [nI_clamp (by omega), hl02 i hi]
        refine ifF l4 ⟨G, hG, _, gR.2.2.2.2.2.2.2.2.2.2.2.2.2.2.1, 4, z0, hz0, zIn_nI hi (by decide), ?_⟩
        rw [hz02 i hi hn1, hsz]
        exact mI_n (lo := 0) (hi := nI m - 1) rfl rfl (mt (cell_in2 hm48).mp hy) ⟨_, rfl, ifT rfl ⟨rfl, hA.up, zFr.rf⟩⟩
  · exact b_BL_lay_0 (xS_n hx ⟨_, rfl, ifT rfl ⟨_, rfl, zFr.rf, ⟨G, hG⟩, b_Mo_lay_0 (mSh_n1 hx ⟨_, rfl, ifT rfl ⟨rfl, hA.up, zFr.rf⟩⟩)⟩⟩)
theorem cX_keptImages {F : Nat → Value} {g : Nat → Int32} {a b : Bool} (hF : h.2 8 = zO 9 F) (hR : blR F) (hg : h.2 125 = zI 1 2 g) (g0 : g 0 = b01 a) (g1 : g 1 = b01 b) (K : Q (some (.int (b01 a + b01 b))) h) : zW (d + 1) m_BL_keptImages e 0 [.ref 8, zD, zD] [] h Q := by
  refine b_BL_keptImages_0 (b_BL_keptImages_4 (ifF (by decide) ⟨F, hF, _, hR.2.2.2.2.2.2.2.2.1, 2, g, hg, zIn_nI (show 0 < 2 by decide) (by decide), ?_⟩))
  rw [show (0 : Int32).toNatClampNeg = 0 from rfl, g0]
  have st : ∀ c : Int32, c + b01 b = b01 a + b01 b → zW (d + 1) m_BL_keptImages e 4 [.ref 8, .int c, .int (0 + 1)] [] h Q := fun c hc => by
    refine b_BL_keptImages_4 (ifF (by decide) ⟨F, hF, _, hR.2.2.2.2.2.2.2.2.1, 2, g, hg, zIn_nI (show 1 < 2 by decide) (by decide), ?_⟩)
    rw [show ((0 : Int32) + 1).toNatClampNeg = 1 from rfl, g1]
    have st2 : ∀ c2 : Int32, c2 = b01 a + b01 b → zW (d + 1) m_BL_keptImages e 4 [.ref 8, .int c2, .int (0 + 1 + 1)] [] h Q := fun c2 hc2 => by
      rw [← hc2] at K
      exact b_BL_keptImages_4 (ifT (by decide) K)
    cases b with
    | false => exact ifT rfl (st2 _ (by rw [← hc]; exact (Int32.add_zero c).symm))
    | true => exact ifF (by decide) (st2 _ hc)
  cases a with
  | false => exact ifT rfl (st _ rfl)
  | true => exact ifF (by decide) (st _ rfl)
theorem P_count (hA : AB h k) (x : Int32) : PRi (d + 9) h k m_BL_count [.ref 8, .int x] m_Mo_count [.ref 139, .int x] := by
  obtain ⟨B, t, I, H, f, o, hC, hM, iB, iT, iI, iH⟩ := id hA
  obtain ⟨⟨F, hF, hR, f10, f11⟩, ⟨-, -, hT⟩, -, -, ⟨-, ⟨gk, hgk, gk2⟩, -⟩, ⟨⟨ga, hga, ga2⟩, hsh⟩⟩ := id hC
  obtain ⟨⟨G, hG, gR, g5, g10, g30⟩, hm, hs, ⟨-, mk, hmk, mk2⟩, hmt, ⟨⟨l0, hl0, hl02⟩, ⟨z0, hz0, hz02⟩, -⟩⟩ := id hM
  unfold PRi
  by_cases c0 : x = 0
  · subst c0
    refine b_BL_count_0 (ifT rfl ⟨⟨F, hF⟩, cX_keptImages hF hR hgk (gk2 0 (by decide)) (gk2 1 (by decide)) ⟨_, rfl, _, rfl, zFr.rf, ⟨G, hG⟩, b_Mo_count_0 (ifT rfl ⟨G, hG, _, gR.2.2.2.1, 2, mk, hmk, zIn_nI (show 0 < 2 by decide) (by decide), ?_⟩)⟩⟩)
    rw [show (0 : Int32).toNatClampNeg = 0 from rfl, mk2 0 (by decide)]
    refine cM_flag ⟨_, rfl, G, hG, _, gR.2.2.2.1, 2, mk, hmk, zIn_nI (show 1 < 2 by decide) (by decide), ?_⟩
    rw [show (1 : Int32).toNatClampNeg = 1 from rfl, mk2 1 (by decide)]
    exact cM_flag ⟨_, rfl, rfl, hA.up, zFr.rf⟩
  · by_cases c1 : x = 1
    · subst c1
      obtain ⟨⟨F5, hF5, f50, f51⟩, -⟩ := hT
      exact b_BL_count_0 (ifF (by decide) (ifT rfl ⟨F, hF, _, hR.2.1, F5, hF5, _, f50, _, rfl, zFr.rf, ⟨G, hG⟩, b_Mo_count_0 (ifF (by decide) (ifT rfl ⟨G, hG, _, g5, rfl, hA.up, zFr.rf⟩))⟩))
    · by_cases c2 : x = 2
      · subst c2
        have hs1 := hsh 0 (by decide)
        have os : ∃ F, h.2 131 = zO 4 F := hs1.1.imp fun _ w => w.1
        refine b_BL_count_0 (ifF (by decide) (ifF (by decide) (ifT rfl ⟨F, hF, _, hR.2.2.2.2.2.2.2.2.2, 4, ga, hga, zIn_nI (show 0 < 4 by decide) (by decide), 131, ga2 0 (by decide), os, cS_isNothing hs1 ⟨_, rfl, ?_⟩⟩)))
        by_cases hn : (H 0).1 = -1
        · rw [if_pos hn]
          refine ifF (by decide) ⟨_, rfl, zFr.rf, ⟨G, hG⟩, b_Mo_count_0 (ifF (by decide) (ifF (by decide) (ifT rfl ⟨G, hG, _, gR.2.2.2.2.2.2.2.2.2.2.2.2.2.1, 4, l0, hl0, zIn_nI (show 0 < 4 by decide) (by decide), ?_⟩)))⟩
          rw [show (0 : Int32).toNatClampNeg = 0 from rfl, hl02 0 (by decide), if_pos hn]
          exact ifT rfl ⟨rfl, hA.up, zFr.rf⟩
        · rw [if_neg hn]
          obtain ⟨⟨E, hE, e0, -⟩, -⟩ := id hs1
          refine ifT rfl ⟨F, hF, _, hR.2.2.2.2.2.2.2.2.2, 4, ga, hga, zIn_nI (show 0 < 4 by decide) (by decide), 131, ga2 0 (by decide), E, hE, _, e0, _, rfl, zFr.rf, ⟨G, hG⟩, b_Mo_count_0 (ifF (by decide) (ifF (by decide) (ifT rfl ⟨G, hG, _, gR.2.2.2.2.2.2.2.2.2.2.2.2.2.1, 4, l0, hl0, zIn_nI (show 0 < 4 by decide) (by decide), ?_⟩)))⟩
          rw [show (0 : Int32).toNatClampNeg = 0 from rfl, hl02 0 (by decide), if_neg hn]
          rcases iH 0 (by decide) with hn' | ⟨-, lj, hlj, hln⟩
          · exact absurd hn' hn
          · refine ifF (by rw [hln]; exact nI_m4 (by omega)) ⟨G, hG, _, gR.2.2.2.2.2.2.2.2.2.2.2.2.2.2.1, 4, z0, hz0, zIn_nI (show 0 < 4 by decide) (by decide), ?_⟩
            rw [hz02 0 (by decide) hn]
            exact ⟨rfl, hA.up, zFr.rf⟩
      · exact b_BL_count_0 (ifF c0 (ifF c1 (ifF c2 ⟨_, rfl, zFr.rf, ⟨G, hG⟩, b_Mo_count_0 (ifF c0 (ifF c1 (ifF c2 ⟨rfl, hA.up, zFr.rf⟩)))⟩)))
end C
