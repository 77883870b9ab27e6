/-! The class answers as the Model does: draw, keep, back -/
section F
variable {A : Nat → Prop} {h h' : zH} {k k' : Nat} {B B' : bkT} {t t' : tpT} {I I' : imT} {H H' : shT} {f o f' o' : Int32}
theorem CA.wd (c : CA h k B t I H f o) (fr : zFr A h h') (hA : ∀ z, A z → 14 ≤ z ∧ z < 124) (w : xW h' k' B') (w2 : xD h') : CA h' k' B' t I H f o := by
  obtain ⟨c1, c2, c3, c4, c5, c6⟩ := c
  have n : ∀ z, ¬ (14 ≤ z ∧ z < 124) → ¬ A z := fun z hz q => hz (hA z q)
  exact ⟨c1.fr fr (n _ (by decide)), c2.fr fr (fun z a b => n z (by omega)), w, w2, c5.fr fr (fun z a b _ => n z (by omega)), c6.fr fr (fun z a => n z (by omega))⟩
theorem MA.img (c : MA h B t I H f o) (fr : zFr A h h') (hA : ∀ z, A z → z = 142 ∨ z = 143) (w : yI h' I') : MA h' B t I' H f o := by
  obtain ⟨c1, c2, c3, c4, c5, c6⟩ := c
  have n : ∀ z, ¬ (z = 142 ∨ z = 143) → ¬ A z := fun z hz q => hz (hA z q)
  exact ⟨c1.fr fr (n _ (by decide)), c2.fr fr (n _ (by decide)), c3.fr fr (fun z a => n z (by omega)), w, c5.fr fr (n _ (by decide)), c6.fr fr (n _ (by decide)) (n _ (by decide)) (n _ (by decide))⟩
theorem MA.shs (c : MA h B t I H f o) (fr : zFr A h h') (hA : ∀ z, A z → 153 ≤ z ∧ z < 156) (w : yH h' H') : MA h' B t I H' f o := by
  obtain ⟨c1, c2, c3, c4, c5, c6⟩ := c
  have n : ∀ z, ¬ (153 ≤ z ∧ z < 156) → ¬ A z := fun z hz q => hz (hA z q)
  exact ⟨c1.fr fr (n _ (by decide)), c2.fr fr (n _ (by decide)), c3.fr fr (fun z a => n z (by omega)), c4.fr fr (n _ (by decide)) (n _ (by decide)), c5.fr fr (n _ (by decide)), w⟩
end F
section C
variable {d : Nat} {e : Nat × Nat} {h : zH} {Q : zQ} {k : Nat}
theorem P_draw (hA : AB h k) (hk : k < 2 ^ 29) (x v : Int32) : PRi (d + 9) h k m_BL_draw [.ref 8, .int x, .int v] m_Mo_draw [.ref 139, .int x, .int v, zD, zD, zD, zD, zD] := by
  obtain ⟨B, t, I, H, f, o, hC, hM, iB, iT, iI, iH⟩ := id hA
  obtain ⟨⟨F, hF, hR, f10, f11⟩, -, ⟨hbk, ⟨nw, hnw, hw⟩, hch⟩, ⟨⟨x0, k0, hdr⟩, htm⟩, -⟩ := id hC
  obtain ⟨⟨G, hG, gR, g5, g10, g30⟩, hm, ⟨hs1, hs2, hs3, hs4⟩, hyI, hmt, hyH⟩ := id hM
  obtain ⟨⟨⟨W, hW, -⟩, -⟩, -⟩ := id hw
  unfold PRi
  by_cases hv : 1 ≤ v ∧ v ≤ 7
  · obtain ⟨n, hn, rfl⟩ := nI_of2 (M := 7) (n := 7) rfl (fun w => absurd (Int32.lt_of_lt_of_le w (by decide : (0 : Int32) ≤ 1)) (Int32.not_lt.mpr hv.1)) hv.2
    have hn1 := (nI_leI (a := 1) (b := n) (by omega) (by omega)).mp hv.1
    refine b_BL_draw_0 (xCc_y hv ⟨_, rfl, ifF (by decide) ⟨F, hF, _, hR.2.2.2.2.2.1, F, hF, _, hR.2.2.2.1, hdr.1.imp fun _ w => w.1, cD_fill (x := x) hdr hbk hn (fun h1 hd1 hb1 hf1 => ⟨rfl, F, (hf1 8 (by decide)).trans hF, _, hR.2.2.1, ⟨W, (hf1 14 (by decide)).trans hW⟩, cW_touchAll (S' := drP x n 16 0) (l' := B.2.1) (q' := B.2.2.1) (hw.fr hf1 (fun z hz w => by have hz : z = 15 ∨ z = 16 ∨ z = 120 ∨ z = 121 ∨ z = 122 := hz; omega)) (by omega) (fun h2 hw2 hf2 => ⟨rfl, F, (hf2 8 (by decide)).trans ((hf1 8 (by decide)).trans hF), _, hR.2.2.2.1, ?_⟩)⟩)⟩⟩)
    have hb2 := hb1.fr hf2 (by decide) (by decide)
    have hf12 : zFr (fun z => z = 14 ∨ z = 15 ∨ z = 16 ∨ z = 18 ∨ z = 120 ∨ z = 121 ∨ z = 122) h h2 := (hf1.sub (fun z hz => by have hz : z = 15 ∨ z = 16 ∨ z = 120 ∨ z = 121 ∨ z = 122 := hz; show z = 14 ∨ z = 15 ∨ z = 16 ∨ z = 18 ∨ z = 120 ∨ z = 121 ∨ z = 122; omega)).trans (hf2.sub (fun z hz => by have hz : z = 14 ∨ z = 18 := hz; show z = 14 ∨ z = 15 ∨ z = 16 ∨ z = 18 ∨ z = 120 ∨ z = 121 ∨ z = 122; omega))
    have rg : ∀ z, (z = 14 ∨ z = 15 ∨ z = 16 ∨ z = 18 ∨ z = 120 ∨ z = 121 ∨ z = 122) → 14 ≤ z ∧ z < 124 := fun z hz => by omega
    refine ⟨hb2.1.imp fun _ w => w.1, cB_allStamps hb2 hn ⟨_, rfl, _, rfl, hf12.sub (fun z hz => by have := rg z hz; show 8 ≤ z; omega), ⟨G, (hf12 _ (by decide)).trans hG⟩, ?_⟩⟩
    have hG2 : h2.2 139 = zO 10 G := (hf12 _ (by decide)).trans hG
    obtain ⟨st, hst, st0, st1, st2, st3⟩ := hm.fr hf12 (by decide)
    refine b_Mo_draw_0 (mI_y (lo := 1) (hi := 7) rfl rfl hv ⟨_, rfl, ifF (by decide) ⟨G, hG2, ?_⟩⟩)
    rintro h5 rfl
    refine ⟨_, zP_same _ _ _, _, gR.1, 115, st, (zP_ne _ _ (by decide)).trans hst, zi0, ?_⟩
    rintro h10 rfl
    refine ⟨_, (zP_ne _ _ (by decide)).trans (zP_same _ _ _), _, gR.1, cM_empties (zP_same _ _ _) (fun f' hf1' hf2' => ⟨rfl, ?_⟩)⟩
    rw [zP_zP]
    have a1 : mdA (zP (zP h2 139 (zO 10 (zU G 33 (.int x)))) 140 (zI 0 115 f')) G x (2 * 0) 0 := by
      refine ⟨⟨zU G 33 (.int x), (zP_ne _ _ (by decide)).trans (zP_same _ _ _), fun j hj => zU_ne _ _ hj, rfl⟩, ?_, ?_⟩
      · obtain ⟨g, hg⟩ := hs3
        exact ⟨g, (zP_ne _ _ (by decide)).trans ((zP_ne _ _ (by decide)).trans ((hf12 _ (by decide)).trans hg)), fun r hr => by omega⟩
      · obtain ⟨g, hg⟩ := hs4
        exact ⟨g, (zP_ne _ _ (by decide)).trans ((zP_ne _ _ (by decide)).trans ((hf12 _ (by decide)).trans hg)), fun r hr => by omega⟩
    have a2 : msA (zP (zP h2 139 (zO 10 (zU G 33 (.int x)))) 140 (zI 0 115 f')) (nI n) B.2.1 B.2.2.1 (fun _ => -4) := ⟨f', zP_same _ _ _, (hf1' 0 (by decide)).trans rfl, (hf1' 1 (by decide)).trans st1, (hf1' 2 (by decide)).trans st2, hf2'⟩
    have a3 : zFr (fun z => z = 139 ∨ z = 140 ∨ z = 151 ∨ z = 152) h2 (zP (zP h2 139 (zO 10 (zU G 33 (.int x)))) 140 (zI 0 115 f')) := (zFr.put (Or.inl rfl)).trans (zFr.put (Or.inr (Or.inl rfl)))
    refine cM_draw35 (h := h2) (G := G) (x := x) (l := B.2.1) (q := B.2.2.1) gR hn (fun h3 hI3 => ?_) n 0 _ (by omega) a1 a2 a3
    obtain ⟨⟨⟨G3, hG3, g3, g33⟩, b2, b3⟩, hm3, hf3⟩ := hI3
    have gR3 : mR G3 := mR_of gR (fun j hj => g3 j (by omega))
    refine b_Mo_draw_74 (ifT (show nI 16 ≤ nI 16 from Int32.le_refl _) ⟨⟨G3, hG3⟩, cM_stamps hG3 gR3 hm3 hn ⟨_, rfl, rfl, ?_, ?_⟩⟩)
    · refine ⟨(n, B.2.1, B.2.2.1, drP x n 16 0), t, I, H, f, o, ?_, ?_, ⟨⟨hn1, hn⟩, iB.2.1, iB.2.2.1, drP_ok x n 16 0⟩, iT, iI, iH⟩
      · refine CA.fr (CA.wd hC hf12 rg (xW_all (B := (n, B.2.1, B.2.2.1, drP x n 16 0)) hb2 hw2 hnw hch hf12 (fun z hz w => by have hz : z = 14 ∨ z = 15 ∨ z = 16 ∨ z = 18 ∨ z = 120 ∨ z = 121 ∨ z = 122 := hz; omega)) ⟨⟨x, drT n 16 0, ?_⟩, ?_⟩) hf3 (fun z hz => by have hz : z = 139 ∨ z = 140 ∨ z = 151 ∨ z = 152 := hz; omega)
        · obtain ⟨q1, ⟨g, q2, -⟩, g', q3, -⟩ := hd1.fr hf2 (by decide) (by decide) (by decide)
          exact ⟨q1, ⟨g, q2, fun r hr => by omega⟩, g', q3, fun r hr => by omega⟩
        · rw [hf12 _ (by decide)]; exact htm
      · have hf23 : zFr (fun z => z = 14 ∨ z = 15 ∨ z = 16 ∨ z = 18 ∨ z = 120 ∨ z = 121 ∨ z = 122 ∨ z = 139 ∨ z = 140 ∨ z = 151 ∨ z = 152) h h3 := (hf12.sub (fun z hz => by have hz : z = 14 ∨ z = 15 ∨ z = 16 ∨ z = 18 ∨ z = 120 ∨ z = 121 ∨ z = 122 := hz; show z = 14 ∨ z = 15 ∨ z = 16 ∨ z = 18 ∨ z = 120 ∨ z = 121 ∨ z = 122 ∨ z = 139 ∨ z = 140 ∨ z = 151 ∨ z = 152; omega)).trans (hf3.sub (fun z hz => by have hz : z = 139 ∨ z = 140 ∨ z = 151 ∨ z = 152 := hz; show z = 14 ∨ z = 15 ∨ z = 16 ∨ z = 18 ∨ z = 120 ∨ z = 121 ∨ z = 122 ∨ z = 139 ∨ z = 140 ∨ z = 151 ∨ z = 152; omega))
        refine ⟨⟨G3, hG3, gR3, (g3 5 (by decide)).trans g5, (g3 10 (by decide)).trans g10, (g3 30 (by decide)).trans g30⟩, hm3, ⟨?_, hs2.fr hf23 (fun z a b w => by have w : z = 14 ∨ z = 15 ∨ z = 16 ∨ z = 18 ∨ z = 120 ∨ z = 121 ∨ z = 122 ∨ z = 139 ∨ z = 140 ∨ z = 151 ∨ z = 152 := w; omega), b2.imp fun _ w => w.1, b3.imp fun _ w => w.1⟩, hyI.fr hf23 (by decide) (by decide), hmt.fr hf23 (by decide), hyH.fr hf23 (by decide) (by decide) (by decide)⟩
        rw [hf23 _ (by decide)]; exact hs1
    · exact (hf12.sub (fun z hz => by have := rg z hz; show 8 ≤ z; omega)).trans (hf3.sub (fun z hz => by have hz : z = 139 ∨ z = 140 ∨ z = 151 ∨ z = 152 := hz; show 8 ≤ z; omega))
  · exact b_BL_draw_0 (xCc_n hv ⟨_, rfl, ifT rfl ⟨_, rfl, zFr.rf, ⟨G, hG⟩, b_Mo_draw_0 (mI_n (lo := 1) (hi := 7) rfl rfl hv ⟨_, rfl, ifT rfl ⟨rfl, hA.up, zFr.rf⟩⟩)⟩⟩)
theorem ix115 (k c : Nat) : (115 : Int32) * nI k + nI c = nI (115 * k + c) := by
  rw [show (115 : Int32) = nI 115 from rfl, pk_mul, nI_add]
theorem cM_keep31 {G : Nat → Value} {i : Nat} {v : Int32} {st g0 : Nat → Int32} (hG : h.2 139 = zO 10 G) (gR : mR G) (hst : h.2 140 = zI 0 115 st) (hg : h.2 142 = zI 0 230 g0) (hi : i < 2)
    (K : ∀ g, (∀ c, c < 115 → g (115 * i + c) = st c) → (∀ j, j < 115 * i ∨ 115 * i + 115 ≤ j → g j = g0 j) → Q (some (.int v)) (zP h 142 (zI 0 230 g))) : zW (d + 1) m_Mo_keep e 31 [.ref 139, .int (nI i), .int v, .int 0] [] h Q := by
  have loop : ∀ j c (g : Nat → Int32), c + j = 115 → (∀ c', c' < c → g (115 * i + c') = st c') → (∀ j, j < 115 * i ∨ 115 * i + 115 ≤ j → g j = g0 j) → zW (d + 1) m_Mo_keep e 31 [.ref 139, .int (nI i), .int v, .int (nI c)] [] (zP h 142 (zI 0 230 g)) Q := by
    intro j
    induction j with
    | zero =>
      intro c g hj h1 h2
      have : c = 115 := by omega
      subst this
      exact b_Mo_keep_31 (ifT (show nI 115 ≤ nI 115 from Int32.le_refl _) (K g h1 h2))
    | succ j ih =>
      intro c g hj h1 h2
      refine b_Mo_keep_31 (ifF (show ¬ nI 115 ≤ nI c from nI_ge (by omega) (by decide)) ⟨G, (zP_ne _ _ (by decide)).trans hG, _, gR.2.2.1, G, (zP_ne _ _ (by decide)).trans hG, _, gR.1, 115, st, (zP_ne _ _ (by decide)).trans hst, zIn_nI (by omega) (by decide), 230, g, zP_same _ _ _, ?_, ?_⟩)
      · rw [ix115]; exact zIn_nI (by omega) (by decide)
      · rintro h9 rfl
        rw [zP_zP, nI_1, ix115, nI_clamp (by omega), nI_clamp (by omega)]
        refine ih (c + 1) _ (by omega) (fun c' hc' => ?_) (fun j hj => by rw [zU_ne _ _ (by omega)]; exact h2 j hj)
        by_cases ec : c' = c
        · rw [ec, zU_same]
        · rw [zU_ne _ _ (by omega)]; exact h1 c' (by omega)
  have := loop 115 0 g0 rfl (fun c hc => by omega) (fun j _ => rfl)
  rw [zP_self hg] at this
  exact this
theorem P_keep (hA : AB h k) (x : Int32) : PRi (d + 9) h k m_BL_keep [.ref 8, .int x, zD] m_Mo_keep [.ref 139, .int x, zD, zD] := by
  obtain ⟨B, t, I, H, f, o, hC, hM, iB, iT, iI, iH⟩ := id hA
  obtain ⟨⟨F, hF, hR, f10, f11⟩, -, ⟨hbk, -⟩, -, ⟨⟨ga, hga, ga2⟩, ⟨gk, hgk, gk2⟩, him⟩, -⟩ := id hC
  obtain ⟨⟨G, hG, gR, g5, g10, g30⟩, hm, hs, ⟨⟨m0, hm0, hm02⟩, mk, hmk, mk2⟩, hmt, hyH⟩ := id hM
  unfold PRi
  rcases qR_dec 2 x with ⟨i, hi, rfl⟩ | hx
  · have p23 : ∀ s0 : Int32, s0 = b01 (I i).1 → zW (d + 9) m_BL_keep h.1 23 [.ref 8, .int (nI i), zD] [.int s0] h (fun r1 h1 => ∃ x : Int32, r1 = some (.int x) ∧ zFr up8 h h1 ∧ (∃ G, h1.2 139 = zO 10 G) ∧ zW (d + 9) m_Mo_keep h1.1 0 [.ref 139, .int (nI i), zD, zD] [] h1 (fun r2 h2 => r2 = some (.int x) ∧ AB h2 (k + 1) ∧ zFr up8 h h2)) := by
      intro s0 hs0
      obtain ⟨⟨n', l', q', S', hi1⟩, hi2⟩ := him i hi
      refine b_BL_keep_23 ⟨F, hF, _, hR.2.2.2.2.2.2.2.1, 2, ga, hga, zIn_nI hi (by decide), 127 + 2 * i, by rw [nI_clamp (by omega)]; exact ga2 i hi, F, hF, _, hR.2.2.2.1, hi1.1.imp fun _ w => w.1, cB_copyFrom hi1 hbk ⟨by omega, by omega, by omega⟩ (fun h1 hb1 hf1 => ⟨rfl, F, (hf1 8 (by omega)).trans hF, _, hR.2.2.2.2.2.2.2.2.1, by decide, 2, gk, (hf1 125 (by omega)).trans hgk, zIn_nI hi (by decide), ?_⟩)⟩
      rintro h14 rfl
      rw [nI_clamp (by omega)]
      have hf12 : zFr (fun z => z = 125 ∨ z = 127 + 2 * i ∨ z = 128 + 2 * i) h (zP h1 125 (zI 1 2 (zU gk i 1))) := (hf1.sub (fun z hz => by have hz : z = 127 + 2 * i ∨ z = 127 + 2 * i + 1 := hz; show z = 125 ∨ z = 127 + 2 * i ∨ z = 128 + 2 * i; omega)).trans (zFr.put (Or.inl rfl))
      generalize hh2 : zP h1 125 (zI 1 2 (zU gk i 1)) = h2 at hf12
      have a125 : h2.2 125 = zI 1 2 (zU gk i 1) := by rw [← hh2]; exact zP_same _ _ _
      have ab : bkA h2 (127 + 2 * i) (nI B.1) B.2.1 B.2.2.1 B.2.2.2 := by rw [← hh2]; exact hb1.fr (zFr.put (A := fun z => z = 125) rfl) (by omega) (by omega)
      have hG2 : h2.2 139 = zO 10 G := (hf12 _ (by omega)).trans hG
      obtain ⟨st, hst, st0, st1, st2, st3⟩ := id hm
      refine ⟨_, rfl, hf12.sub (fun z hz => by have hz : z = 125 ∨ z = 127 + 2 * i ∨ z = 128 + 2 * i := hz; show 8 ≤ z; omega), ⟨G, hG2⟩, b_Mo_keep_0 (mR_y (N := 1) (hi := 1) rfl rfl rfl (by decide) (by omega) ⟨_, rfl, ifF (by decide) ⟨G, hG2, _, gR.2.2.2.1, 2, mk, (hf12 _ (by omega)).trans hmk, zIn_nI hi (by decide), ?_⟩⟩)⟩
      rw [nI_clamp (by omega), mk2 i hi]
      refine cM_flag ⟨_, rfl, G, hG2, _, gR.2.2.2.1, by decide, 2, mk, (hf12 _ (by omega)).trans hmk, zIn_nI hi (by decide), ?_⟩
      rintro h15 rfl
      refine cM_keep31 (i := i) (st := st) (g0 := m0) ((zP_ne _ _ (by decide)).trans hG2) gR ((zP_ne _ _ (by decide)).trans ((hf12 _ (by omega)).trans hst)) ((zP_ne _ _ (by decide)).trans ((hf12 _ (by omega)).trans hm0)) hi (fun g hg1 hg2 => ?_)
      have fr3 : zFr (fun z => z = 142 ∨ z = 143) h2 (zP (zP h2 143 (zI 1 2 (zU mk i 1))) 142 (zI 0 230 g)) := (zFr.put (Or.inr rfl)).trans (zFr.put (Or.inl rfl))
      refine ⟨by rw [hs0], ⟨B, t, zU I i (true, B), H, f, o, ?_, ?_, iB, iT, fun j hj hq => ?_, iH⟩, ?_⟩
      · refine CA.fr (CA.im (hC.up (by omega)) hf12 (fun z hz => by have hz : z = 125 ∨ z = 127 + 2 * i ∨ z = 128 + 2 * i := hz; omega) ⟨⟨ga, (hf12 _ (by omega)).trans hga, ga2⟩, ⟨_, a125, fun j hj => ?_⟩, fun j hj => ?_⟩) fr3 (fun z hz => by have hz : z = 142 ∨ z = 143 := hz; omega)
        · by_cases ej : j = i
          · rw [ej, zU_same, zU_same]; rfl
          · rw [zU_ne _ _ ej, zU_ne _ _ ej]; exact gk2 j hj
        · by_cases ej : j = i
          · rw [ej, zU_same]
            exact ⟨⟨_, _, _, _, ab⟩, fun _ => ab⟩
          · rw [zU_ne _ _ ej]
            obtain ⟨⟨n', l', q', S', w1⟩, w2⟩ := him j hj
            exact ⟨⟨n', l', q', S', w1.fr hf12 (by omega) (by omega)⟩, fun w => (w2 w).fr hf12 (by omega) (by omega)⟩
      · refine MA.img (hM.fr hf12 (fun z hz => by have hz : z = 125 ∨ z = 127 + 2 * i ∨ z = 128 + 2 * i := hz; omega)) fr3 (fun z hz => hz) ⟨⟨g, zP_same _ _ _, fun j hj => ?_⟩, _, (zP_ne _ _ (by decide)).trans (zP_same _ _ _), fun j hj => ?_⟩
        · by_cases ej : j = i
          · rw [ej, zU_same]
            intro _
            exact ⟨(hg1 0 (by decide)).trans st0, (hg1 1 (by decide)).trans st1, (hg1 2 (by decide)).trans st2, fun c hc => (hg1 (3 + c) (by omega)).trans (st3 c hc)⟩
          · rw [zU_ne _ _ ej]
            intro w
            obtain ⟨w1, w2, w3, w4⟩ := hm02 j hj w
            exact ⟨(hg2 _ (by omega)).trans w1, (hg2 _ (by omega)).trans w2, (hg2 _ (by omega)).trans w3, fun c hc => (hg2 _ (by omega)).trans (w4 c hc)⟩
        · by_cases ej : j = i
          · rw [ej, zU_same, zU_same]; rfl
          · rw [zU_ne _ _ ej, zU_ne _ _ ej]; exact mk2 j hj
      · by_cases ej : j = i
        · rw [ej, zU_same]; exact iB
        · rw [zU_ne _ _ ej] at hq ⊢; exact iI j hj hq
      · exact (hf12.sub (fun z hz => by have hz : z = 125 ∨ z = 127 + 2 * i ∨ z = 128 + 2 * i := hz; show 8 ≤ z; omega)).trans (fr3.sub (fun z hz => by have hz : z = 142 ∨ z = 143 := hz; show 8 ≤ z; omega))
    refine b_BL_keep_0 (xI_y hi ⟨_, rfl, ifF (by decide) ⟨F, hF, _, hR.2.2.2.2.2.2.2.2.1, 2, gk, hgk, zIn_nI hi (by decide), ?_⟩⟩)
    rw [nI_clamp (by omega), gk2 i hi]
    exact ifB (fun c => p23 0 c.symm) (fun c => p23 1 (by rw [b01_n c]; rfl))
  · exact b_BL_keep_0 (xI_n hx ⟨_, rfl, ifT rfl ⟨_, rfl, zFr.rf, ⟨G, hG⟩, b_Mo_keep_0 (mR_n (N := 1) (hi := 1) rfl rfl rfl (by decide) hx ⟨_, rfl, ifT rfl ⟨rfl, hA.up, zFr.rf⟩⟩)⟩⟩)
theorem cM_back26 {G : Nat → Value} {i N : Nat} {l q : Int32} {S st g0 : Nat → Int32} (hG : h.2 139 = zO 10 G) (gR : mR G) (hst : h.2 140 = zI 0 115 st) (hg : h.2 142 = zI 0 230 g0) (hi : i < 2) (w1 : g0 (115 * i) = nI N) (w2 : g0 (115 * i + 1) = l) (w3 : g0 (115 * i + 2) = q) (w4 : ∀ c, c < 112 → g0 (115 * i + (3 + c)) = S c) (hN : N ≤ 7)
    (K : ∀ h', msA h' (nI N) l q S → zFr (fun z => z = 140) h h' → Q (some (.int (nI (cnA S N)))) h') : zW (d + 4) m_Mo_back e 26 [.ref 139, .int (nI i), .int 0] [] h Q := by
  have loop : ∀ j c (s : Nat → Int32), c + j = 115 → (∀ c', c' < c → s c' = g0 (115 * i + c')) → zW (d + 4) m_Mo_back e 26 [.ref 139, .int (nI i), .int (nI c)] [] (zP h 140 (zI 0 115 s)) Q := by
    intro j
    induction j with
    | zero =>
      intro c s hj h1
      have : c = 115 := by omega
      subst this
      have hG1 : (zP h 140 (zI 0 115 s)).2 139 = zO 10 G := (zP_ne _ _ (by decide)).trans hG
      have hm : msA (zP h 140 (zI 0 115 s)) (nI N) l q S := ⟨s, zP_same _ _ _, (h1 0 (by decide)).trans w1, (h1 1 (by decide)).trans w2, (h1 2 (by decide)).trans w3, fun c hc => (h1 (3 + c) (by omega)).trans (w4 c hc)⟩
      exact b_Mo_back_26 (ifT (show nI 115 ≤ nI 115 from Int32.le_refl _) ⟨⟨G, hG1⟩, cM_stamps hG1 gR hm hN ⟨_, rfl, K _ hm (zFr.put rfl)⟩⟩)
    | succ j ih =>
      intro c s hj h1
      refine b_Mo_back_26 (ifF (show ¬ nI 115 ≤ nI c from nI_ge (by omega) (by decide)) ⟨G, (zP_ne _ _ (by decide)).trans hG, _, gR.1, G, (zP_ne _ _ (by decide)).trans hG, _, gR.2.2.1, 230, g0, (zP_ne _ _ (by decide)).trans hg, ?_, 115, s, zP_same _ _ _, zIn_nI (by omega) (by decide), ?_⟩)
      · rw [ix115]; exact zIn_nI (by omega) (by decide)
      · rintro h13 rfl
        rw [zP_zP, nI_1, ix115, nI_clamp (by omega), nI_clamp (by omega)]
        refine ih (c + 1) _ (by omega) (fun c' hc' => ?_)
        by_cases ec : c' = c
        · rw [ec, zU_same]
        · rw [zU_ne _ _ ec]; exact h1 c' (by omega)
  have := loop 115 0 st rfl (fun c hc => by omega)
  rw [zP_self hst] at this
  exact this
theorem P_back (hA : AB h k) (hk : k < 2 ^ 29) (x : Int32) : PRi (d + 9) h k m_BL_back [.ref 8, .int x] m_Mo_back [.ref 139, .int x, zD] := by
  obtain ⟨B, t, I, H, f, o, hC, hM, iB, iT, iI, iH⟩ := id hA
  obtain ⟨⟨F, hF, hR, f10, f11⟩, -, ⟨hbk, ⟨nw, hnw, hw⟩, hch⟩, -, ⟨⟨ga, hga, ga2⟩, ⟨gk, hgk, gk2⟩, him⟩, -⟩ := id hC
  obtain ⟨⟨G, hG, gR, g5, g10, g30⟩, hm, hs, ⟨⟨m0, hm0, hm02⟩, mk, hmk, mk2⟩, hmt, hyH⟩ := id hM
  obtain ⟨⟨⟨W, hW, -⟩, -⟩, -⟩ := id hw
  unfold PRi
  rcases qR_dec 2 x with ⟨i, hi, rfl⟩ | hx
  · refine b_BL_back_0 (xI_y hi ⟨_, rfl, ifF (by decide) ⟨F, hF, _, hR.2.2.2.2.2.2.2.2.1, 2, gk, hgk, zIn_nI hi (by decide), ?_⟩⟩)
    rw [nI_clamp (by omega), gk2 i hi]
    cases hq : (I i).1 with
    | false =>
      refine ifT rfl ⟨_, rfl, zFr.rf, ⟨G, hG⟩, b_Mo_back_0 (mR_y (N := 1) (hi := 1) rfl rfl rfl (by decide) (by omega) ⟨_, rfl, ifF (by decide) ⟨G, hG, _, gR.2.2.2.1, 2, mk, hmk, zIn_nI hi (by decide), ?_⟩⟩)⟩
      rw [nI_clamp (by omega), mk2 i hi, hq]
      exact ifT rfl ⟨rfl, hA.up, zFr.rf⟩
    | true =>
      have hb1 := (him i hi).2 hq
      have iB2 := iI i hi hq
      refine ifF (by decide) ⟨F, hF, _, hR.2.2.2.1, F, hF, _, hR.2.2.2.2.2.2.2.1, 2, ga, hga, zIn_nI hi (by decide), 127 + 2 * i, ga2 i hi, hbk.1.imp fun _ w => w.1, cB_copyFrom hbk hb1 ⟨by omega, by omega, by omega⟩ (fun h1 hb1 hf1 => ⟨rfl, F, (hf1 8 (by decide)).trans hF, _, hR.2.2.1, ⟨W, (hf1 14 (by decide)).trans hW⟩, cW_touchAll (S' := (I i).2.2.2.2) (l' := (I i).2.2.1) (q' := (I i).2.2.2.1) (hw.fr hf1 (fun z hz w => by have hz : z = 15 ∨ z = 15 + 1 := hz; omega)) (by omega) (fun h2 hw2 hf2 => ⟨rfl, F, (hf2 8 (by decide)).trans ((hf1 8 (by decide)).trans hF), _, hR.2.2.2.1, ?_⟩)⟩)⟩
      have hb2 := hb1.fr hf2 (by decide) (by decide)
      have hf12 : zFr (fun z => z = 14 ∨ z = 15 ∨ z = 16 ∨ z = 18) h h2 := (hf1.sub (fun z hz => by have hz : z = 15 ∨ z = 15 + 1 := hz; show z = 14 ∨ z = 15 ∨ z = 16 ∨ z = 18; omega)).trans (hf2.sub (fun z hz => by have hz : z = 14 ∨ z = 18 := hz; show z = 14 ∨ z = 15 ∨ z = 16 ∨ z = 18; omega))
      have rg : ∀ z, (z = 14 ∨ z = 15 ∨ z = 16 ∨ z = 18) → 14 ≤ z ∧ z < 120 := fun z hz => by omega
      have hG2 : h2.2 139 = zO 10 G := (hf12 _ (by decide)).trans hG
      refine ⟨hb2.1.imp fun _ w => w.1, cB_allStamps hb2 iB2.1.2 ⟨_, rfl, _, rfl, hf12.sub (fun z hz => by have := rg z hz; show 8 ≤ z; omega), ⟨G, hG2⟩, ?_⟩⟩
      obtain ⟨st, hst, -⟩ := hm.fr hf12 (by decide)
      obtain ⟨w1, w2, w3, w4⟩ := hm02 i hi hq
      refine b_Mo_back_0 (mR_y (N := 1) (hi := 1) rfl rfl rfl (by decide) (by omega) ⟨_, rfl, ifF (by decide) ⟨G, hG2, _, gR.2.2.2.1, 2, mk, (hf12 _ (by decide)).trans hmk, zIn_nI hi (by decide), ?_⟩⟩)
      rw [nI_clamp (by omega), mk2 i hi, hq]
      refine ifF (by decide) (cM_back26 hG2 gR hst ((hf12 _ (by decide)).trans hm0) hi w1 w2 w3 w4 iB2.1.2 (fun h3 hm3 hf3 => ⟨rfl, ⟨(I i).2, t, I, H, f, o, ?_, ?_, iB2, iT, iI, iH⟩, ?_⟩))
      · exact CA.fr (CA.wb hC hf12 rg (xW_all hb2 hw2 hnw hch hf12 (fun z hz w => by have := rg z hz; have hz : z = 14 ∨ z = 15 ∨ z = 16 ∨ z = 18 := hz; omega))) hf3 (fun z hz => by rw [hz]; decide)
      · exact MA.st (hM.fr hf12 (fun z hz => by have := rg z hz; omega)) hf3 (fun z hz => hz) hm3
      · exact (hf12.sub (fun z hz => by have := rg z hz; show 8 ≤ z; omega)).trans (hf3.sub (fun z hz => by rw [hz]; decide))
  · exact b_BL_back_0 (xI_n hx ⟨_, rfl, ifT rfl ⟨_, rfl, zFr.rf, ⟨G, hG⟩, b_Mo_back_0 (mR_n (N := 1) (hi := 1) rfl rfl rfl (by decide) hx ⟨_, rfl, ifT rfl ⟨rfl, hA.up, zFr.rf⟩⟩)⟩⟩)
end C
