/-! The class answers as the Model does: line, sum, struck, far -/
def twoQ (N : Nat) (x y : Int32) : Prop := ∃ r s, r < N ∧ s < N ∧ r ≠ s ∧ x = nI r ∧ y = nI s
theorem lN32 {n : Nat} (h : n < 2 ^ 31) : (lN n).toInt32 = nI n := by rw [← nI_l h, Int32.toInt32_toInt64]
theorem line_pos {S : Nat → Int32} {li le : Int32} {r s : Nat} (hS : StK S) (hle : 2 ≤ le) (hr : r < 7) (hs : s < 7) (hk : (fR S li le r s).1 ≠ 0) : lden S r (fR S li le r s).2.1 ≠ 0 := by
  obtain ⟨hp, -, hk2, -⟩ := fR_ok (li := li) hS hle hr hs
  rw [hk2] at hk
  generalize (fR S li le r s).2.1 = L at hp hk
  unfold lkd at hk
  split at hk
  · exact absurd rfl hk
  · rename_i c
    have hx : lxx S r L ≠ 0 := fun q => c (Or.inr q)
    have hn : 0 < cnL L 16 := by
      rcases Nat.eq_zero_or_pos (cnL L 16) with q | q
      · exfalso
        apply c
        left
        rw [q]
        exact Int32.lt_of_lt_of_le (by decide : nI 0 < 2) hle
      · exact q
    have := lden_pos hS hr (fun b hb h => (hp b hb h).1) hn hx
    intro q
    rw [q] at this
    exact absurd this (by decide)
section C
variable {d : Nat} {e : Nat × Nat} {h : zH} {Q : zQ} {k : Nat}
theorem xP_y {F : Nat → Value} {N r s : Nat} {l q : Int32} {S : Nat → Int32} (hF : h.2 8 = zO 9 F) (hR : blR F) (hbk : bkA h 15 (nI N) l q S) (hN : N ≤ 7) (hr : r < N) (hs : s < N) (hrs : r ≠ s) (K : Q (some (.int 1)) h) : zW (d + 2) m_BL_isPair e 0 [.ref 8, .int (nI r), .int (nI s)] [] h Q := by
  have ob : ∃ F, h.2 15 = zO 0 F := hbk.1.imp fun _ w => w.1
  exact b_BL_isPair_0 ⟨F, hF, _, hR.2.2.2.1, ob, cB_has_y hbk hN hr ⟨_, rfl, ifF (by decide) ⟨F, hF, _, hR.2.2.2.1, ob, cB_has_y hbk hN hs ⟨_, rfl, ifF (by decide) (ifF (fun w => hrs ((nI_eq (by omega) (by omega)).mp w)) ⟨by decide, K⟩)⟩⟩⟩⟩
theorem xP_n {F : Nat → Value} {N : Nat} {x y l q : Int32} {S : Nat → Int32} (hF : h.2 8 = zO 9 F) (hR : blR F) (hbk : bkA h 15 (nI N) l q S) (hN : N ≤ 7) (hx : ¬ twoQ N x y) (K : Q (some (.int 0)) h) : zW (d + 2) m_BL_isPair e 0 [.ref 8, .int x, .int y] [] h Q := by
  have ob : ∃ F, h.2 15 = zO 0 F := hbk.1.imp fun _ w => w.1
  rcases qR_dec N x with ⟨r, hr, rfl⟩ | h1
  · rcases qR_dec N y with ⟨s, hs, rfl⟩ | h2
    · have e1 : r = s := Classical.byContradiction fun w => hx ⟨r, s, hr, hs, w, rfl, rfl⟩
      exact b_BL_isPair_0 ⟨F, hF, _, hR.2.2.2.1, ob, cB_has_y hbk hN hr ⟨_, rfl, ifF (by decide) ⟨F, hF, _, hR.2.2.2.1, ob, cB_has_y hbk hN hs ⟨_, rfl, ifF (by decide) (ifT (by rw [e1]) ⟨by decide, K⟩)⟩⟩⟩⟩
    · exact b_BL_isPair_0 ⟨F, hF, _, hR.2.2.2.1, ob, cB_has_y hbk hN hr ⟨_, rfl, ifF (by decide) ⟨F, hF, _, hR.2.2.2.1, ob, cB_has_n hbk hN h2 ⟨_, rfl, ifT rfl ⟨by decide, K⟩⟩⟩⟩⟩
  · exact b_BL_isPair_0 ⟨F, hF, _, hR.2.2.2.1, ob, cB_has_n hbk hN h1 ⟨_, rfl, ifT rfl ⟨by decide, K⟩⟩⟩
theorem mP_y {G : Nat → Value} {N r s : Nat} {l q : Int32} {S : Nat → Int32} (hG : h.2 139 = zO 10 G) (gR : mR G) (hm : msA h (nI N) l q S) (hN : N ≤ 7) (hr : r < N) (hs : s < N) (hrs : r ≠ s) (K : Q (some (.int 1)) h) : zW (d + 3) m_Mo_areTwo e 0 [.ref 139, .int (nI r), .int (nI s)] [] h Q :=
  b_Mo_areTwo_0 ⟨⟨G, hG⟩, mC_y hG gR hm hN hr ⟨_, rfl, ifF (by decide) ⟨⟨G, hG⟩, mC_y hG gR hm hN hs ⟨_, rfl, ifF (by decide) (ifF (fun w => hrs ((nI_eq (by omega) (by omega)).mp w)) ⟨by decide, K⟩)⟩⟩⟩⟩
theorem mP_n {G : Nat → Value} {N : Nat} {x y l q : Int32} {S : Nat → Int32} (hG : h.2 139 = zO 10 G) (gR : mR G) (hm : msA h (nI N) l q S) (hN : N ≤ 7) (hx : ¬ twoQ N x y) (K : Q (some (.int 0)) h) : zW (d + 3) m_Mo_areTwo e 0 [.ref 139, .int x, .int y] [] h Q := by
  rcases qR_dec N x with ⟨r, hr, rfl⟩ | h1
  · rcases qR_dec N y with ⟨s, hs, rfl⟩ | h2
    · have e1 : r = s := Classical.byContradiction fun w => hx ⟨r, s, hr, hs, w, rfl, rfl⟩
      exact b_Mo_areTwo_0 ⟨⟨G, hG⟩, mC_y hG gR hm hN hr ⟨_, rfl, ifF (by decide) ⟨⟨G, hG⟩, mC_y hG gR hm hN hs ⟨_, rfl, ifF (by decide) (ifT (by rw [e1]) ⟨by decide, K⟩)⟩⟩⟩⟩
    · exact b_Mo_areTwo_0 ⟨⟨G, hG⟩, mC_y hG gR hm hN hr ⟨_, rfl, ifF (by decide) ⟨⟨G, hG⟩, mC_n hG gR hm hN h2 ⟨_, rfl, ifT rfl ⟨by decide, K⟩⟩⟩⟩⟩
  · exact b_Mo_areTwo_0 ⟨⟨G, hG⟩, mC_n hG gR hm hN h1 ⟨_, rfl, ifT rfl ⟨by decide, K⟩⟩⟩
/-- the class has looked at a line, then the Model fits it -/
theorem fit_end {B : bkT} {t : tpT} {I : imT} {H : shT} {f o : Int32} {A : Nat → Prop} {h1 h2 : zH} {G G2 : Nat → Value} {nw : Nat} (hC : CA h k B t I H f o) (hM : MA h B t I H f o) (iB : bkI B) (iT : tpI t) (iI : imI I) (iH : shI H) (hnw : nw ≤ k) (hw1 : wbA h1 B.2.2.2 B.2.1 B.2.2.1 nw) (hf1 : zFr A h h1) (rA : ∀ z, A z → 19 ≤ z ∧ z < 117) (gR : mR G) (g5 : G 5 = .int (nI t.1)) (g10 : G 10 = .int f) (g30 : G 30 = .int o)
    (hf2 : zFr (fun z => z = 139 ∨ z = 145 ∨ z = 146) h1 h2) (hG2 : h2.2 139 = zO 10 G2) (gg : ∀ k, k < 14 ∨ 24 < k ∨ k = 22 ∨ k = 23 → G2 k = G k) {r s : Nat} (hl : lnM h2 G2 B.2.2.2 B.2.1 B.2.2.1 r s) : AB h2 (k + 1) ∧ zFr up8 h h2 := by
  obtain ⟨-, -, -, -, ⟨p, hp, -⟩, o', ho, -⟩ := hl
  have hAr1 := hM.2.2.1.2.1.fr hf1 (fun z a b w => by have := rA z w; omega)
  exact AB_q hC hM iB iT iI iH hf1 (fun z hz => by have := rA z hz; omega) (xW_q hC.2.2.1 hf1 (fun z hz => by have := rA z hz; omega) hnw hw1 (hC.2.2.1.2.2.fr hf1 (fun z hz w => by have := rA z hz; omega))) hf2 (fun z hz => by have hz : z = 139 ∨ z = 145 ∨ z = 146 := hz; omega) (y0.mf hG2 gg gR g5 g10 g30) (mAr_2 hAr1 hf2 ⟨p, hp⟩ ⟨o', ho⟩)
theorem P_line (hA : AB h k) (hk : k < 2 ^ 29) (x y v : Int32) : PRi (d + 9) h k m_BL_line [.ref 8, .int x, .int y, .int v, zD] m_Mo_line [.ref 139, .int x, .int y, .int v] := by
  obtain ⟨B, t, I, H, f, o, hC, hM, iB, iT, iI, iH⟩ := id hA
  obtain ⟨⟨F, hF, hR, f10, f11⟩, -, ⟨hbk, ⟨nw, hnw, hw⟩, hch⟩, -⟩ := id hC
  obtain ⟨⟨G, hG, gR, g5, g10, g30⟩, hm, ⟨-, hAr, -⟩, -⟩ := id hM
  obtain ⟨⟨⟨W, hW, -⟩, -⟩, -⟩ := id hw
  have hN := iB.1.2
  unfold PRi
  rcases Classical.em (twoQ B.1 x y) with ⟨r, s, hr, hs, hrs, rfl, rfl⟩ | hx
  · rcases qR_dec 5 v with ⟨j, hj, rfl⟩ | hv
    · refine b_BL_line_0 ⟨⟨F, hF⟩, xP_y hF hR hbk hN hr hs hrs ⟨_, rfl, ifF (by decide) (ifF (nI_pos (by omega)) (ifT (show nI j ≤ nI 4 from nI_le (by omega) (by decide)) ⟨F, hF, _, hR.2.2.1, ⟨W, hW⟩, cW_lineOf hbk hw iB.2.2.2 iB.2.2.1.1 (by omega) (by omega) (by omega) (fun h1 FL K0 hw1 hf1 hFL hK0 fl11 hln => ⟨_, rfl, ?_⟩)⟩))⟩⟩
      obtain ⟨l1, l2, l8, l9, l10, l11⟩ := id hln
      have rA : ∀ z, (19 ≤ z ∧ z < 117) → 19 ≤ z ∧ z < 117 := fun z hz => hz
      have hG1 := (hf1 139 (by omega)).trans hG
      have hm1 := hm.fr hf1 (by omega)
      have hAr1 := hAr.fr hf1 (fun z a b w => by have w : 19 ≤ z ∧ z < 117 := w; omega)
      have fu := hf1.sub (B := up8) (fun z hz => by have hz : 19 ≤ z ∧ z < 117 := hz; show 8 ≤ z; omega)
      have mo : ∀ {Q : zQ} {e : Nat × Nat}, (∀ h2 G2, h2.2 139 = zO 10 G2 → lnM h2 G2 B.2.2.2 B.2.1 B.2.2.1 r s → AB h2 (k + 1) ∧ zFr up8 h h2 → (if nI j = 0 then (∃ F6, h2.2 139 = zO 10 F6 ∧ ∃ x7, F6 14 = Value.int x7 ∧ (Q (some (Value.int x7)) h2)) else if nI j = 1 then (∃ F8, h2.2 139 = zO 10 F8 ∧ ∃ x9, F8 14 = Value.int x9 ∧ ((if x9 = 0 then Q (some (Value.int (0 : Int32))) h2 else ∃ F10, h2.2 139 = zO 10 F10 ∧ ∃ x11, F10 15 = Value.long x11 ∧ (Q (some (Value.int x11.toInt32)) h2)))) else if nI j = 2 then (∃ F12, h2.2 139 = zO 10 F12 ∧ ∃ x13, F12 24 = Value.int x13 ∧ (Q (some (Value.int x13)) h2)) else if nI j = 3 then (∃ F14, h2.2 139 = zO 10 F14 ∧ ∃ x15, F14 14 = Value.int x15 ∧ ((if x15 = 0 then Q (some (Value.int (-4 : Int32))) h2 else ∃ F16, h2.2 139 = zO 10 F16 ∧ ∃ x17, F16 20 = Value.int x17 ∧ (Q (some (Value.int x17)) h2)))) else if nI j = 4 then ((∃ F21, h2.2 139 = zO 10 F21) ∧ zW (d + 8) m_Mo_costOfLine h2.1 0 [Value.ref 139] [] h2 (fun r18 h19 => ∃ x20, r18 = some (Value.int x20) ∧ (Q (some (Value.int x20)) h19))) else (Q (some (Value.int (-1 : Int32))) h2))) → zW (d + 9) m_Mo_line e 0 [.ref 139, .int (nI r), .int (nI s), .int (nI j)] [] h1 Q := fun w =>
        b_Mo_line_0 ⟨⟨G, hG1⟩, mP_y hG1 gR hm1 hN hr hs hrs ⟨_, rfl, ifF (by decide) ⟨⟨G, hG1⟩, cM_fits hG1 gR hm1 hAr1.1 hAr1.2.1 iB.2.2.2 iB.2.2.1.1 (by omega) (by omega) (fun h2 G2 hf2 hG2 gg hl => ⟨rfl, w h2 G2 hG2 hl (fit_end hC hM iB iT iI iH hnw hw1 hf1 rA gR g5 g10 g30 hf2 hG2 gg hl)⟩)⟩⟩⟩
      have cn := cnL_le (fR B.2.2.2 B.2.1 B.2.2.1 r s).2.1 16
      rcases (show j = 0 ∨ j = 1 ∨ j = 2 ∨ j = 3 ∨ j = 4 by omega) with rfl | rfl | rfl | rfl | rfl
      · exact ifT rfl ⟨FL, hFL, _, l1, _, rfl, fu, ⟨G, hG1⟩, mo (fun h2 G2 hG2 hl ab => ifT rfl ⟨G2, hG2, _, hl.1, rfl, ab⟩)⟩
      · refine ifF (by decide) (ifT rfl ⟨FL, hFL, _, l1, ifB (fun c => ⟨_, rfl, fu, ⟨G, hG1⟩, mo (fun h2 G2 hG2 hl ab => ifF (by decide) (ifT rfl ⟨G2, hG2, _, hl.1, ifT c ⟨rfl, ab⟩⟩))⟩) (fun c => ⟨FL, hFL, _, l2.1, _, rfl, fu, ⟨G, hG1⟩, mo (fun h2 G2 hG2 hl ab => ifF (by decide) (ifT rfl ⟨G2, hG2, _, hl.1, ifF c ⟨G2, hG2, _, hl.2.1.1, ?_, ab⟩⟩))⟩)⟩)
        rw [lN32 (by omega)]
      · exact ifF (by decide) (ifF (by decide) (ifT rfl ⟨FL, hFL, _, l10, _, rfl, fu, ⟨G, hG1⟩, mo (fun h2 G2 hG2 hl ab => ifF (by decide) (ifF (by decide) (ifT rfl ⟨G2, hG2, _, hl.2.2.2.1, rfl, ab⟩)))⟩))
      · exact ifF (by decide) (ifF (by decide) (ifF (by decide) (ifT rfl ⟨FL, hFL, _, l1, ifB (fun c => ⟨_, rfl, fu, ⟨G, hG1⟩, mo (fun h2 G2 hG2 hl ab => ifF (by decide) (ifF (by decide) (ifF (by decide) (ifT rfl ⟨G2, hG2, _, hl.1, ifT c ⟨rfl, ab⟩⟩))))⟩) (fun c => ⟨FL, hFL, _, l8, _, rfl, fu, ⟨G, hG1⟩, mo (fun h2 G2 hG2 hl ab => ifF (by decide) (ifF (by decide) (ifF (by decide) (ifT rfl ⟨G2, hG2, _, hl.1, ifF c ⟨G2, hG2, _, (hl.2.2.1 c).1, rfl, ab⟩⟩))))⟩)⟩)))
      · refine ifF (by decide) (ifF (by decide) (ifF (by decide) (ifF (by decide) ⟨FL, hFL, _, l1, ifB (fun c => ?_) (fun c => ?_)⟩)))
        · have kd : kdB B.2.2.2 B.2.1 B.2.2.1 2 r s = true := by unfold kdB; rw [decide_eq_true hrs, decide_eq_true c]; rfl
          obtain ⟨ce, cd, -⟩ := cs_eq iB.2.2.2 iB.2.2.1.1 iB.2.1.1 iB.2.1.2 (by omega) (by omega) kd
          refine ⟨⟨FL, hFL⟩, cL_costOfGood hFL l2.2.2.2.2.2 l9 cd ⟨_, rfl, _, rfl, fu, ⟨G, hG1⟩, mo (fun h2 G2 hG2 hl ab => ifF (by decide) (ifF (by decide) (ifF (by decide) (ifF (by decide) (ifT rfl ⟨⟨G2, hG2⟩, cM_costOfLine hG2 hl iB.2.2.2 iB.2.2.1.1 iB.2.1.1 iB.2.1.2 (by omega) (by omega) hrs ⟨_, rfl, ?_, ab⟩⟩)))))⟩⟩
          rw [if_pos kd, ce]
        · have kd : ¬ kdB B.2.2.2 B.2.1 B.2.2.1 2 r s = true := by unfold kdB; rw [decide_eq_false c, Bool.and_false]; decide
          refine ⟨_, rfl, fu, ⟨G, hG1⟩, mo (fun h2 G2 hG2 hl ab => ifF (by decide) (ifF (by decide) (ifF (by decide) (ifF (by decide) (ifT rfl ⟨⟨G2, hG2⟩, cM_costOfLine hG2 hl iB.2.2.2 iB.2.2.1.1 iB.2.1.1 iB.2.1.2 (by omega) (by omega) hrs ⟨_, rfl, ?_, ab⟩⟩)))))⟩
          rw [if_neg kd]
    · have nj : ∀ j, j < 5 → ¬ v = nI j := fun j hj w => hv ⟨j, hj, w⟩
      have fin : ∃ z : Int32, some (Value.int (-1)) = some (.int z) ∧ zFr up8 h h ∧ (∃ G, h.2 139 = zO 10 G) ∧ zW (d + 9) m_Mo_line h.1 0 [.ref 139, .int (nI r), .int (nI s), .int v] [] h (fun r2 h2 => r2 = some (.int z) ∧ AB h2 (k + 1) ∧ zFr up8 h h2) := ⟨_, rfl, zFr.rf, ⟨G, hG⟩, b_Mo_line_0 ⟨⟨G, hG⟩, mP_y hG gR hm hN hr hs hrs ⟨_, rfl, ifF (by decide) ⟨⟨G, hG⟩, cM_fits hG gR hm hAr.1 hAr.2.1 iB.2.2.2 iB.2.2.1.1 (by omega) (by omega) (fun h2 G2 hf2 hG2 gg hl => ⟨rfl, ifF (nj 0 (by decide)) (ifF (nj 1 (by decide)) (ifF (nj 2 (by decide)) (ifF (nj 3 (by decide)) (ifF (nj 4 (by decide)) ⟨rfl, fit_end (A := fun _ => False) hC hM iB iT iI iH hnw hw zFr.rf (fun z hz => hz.elim) gR g5 g10 g30 hf2 hG2 gg hl⟩))))⟩)⟩⟩⟩⟩
      refine b_BL_line_0 ⟨⟨F, hF⟩, xP_y hF hR hbk hN hr hs hrs ⟨_, rfl, ifF (by decide) (ifB (fun _ => fin) (fun c => ifF (fun w => ?_) fin))⟩⟩
      have := Int32.le_trans ((qR_n (by decide) hv).resolve_left c) w
      exact absurd this (by decide)
  · exact b_BL_line_0 ⟨⟨F, hF⟩, xP_n hF hR hbk hN hx ⟨_, rfl, ifT rfl ⟨_, rfl, zFr.rf, ⟨G, hG⟩, b_Mo_line_0 ⟨⟨G, hG⟩, mP_n hG gR hm hN hx ⟨_, rfl, ifT rfl ⟨rfl, hA.up, zFr.rf⟩⟩⟩⟩⟩⟩
theorem P_sum (hA : AB h k) (hk : k < 2 ^ 29) (x y v : Int32) : PRl (d + 9) h k m_BL_sum [.ref 8, .int x, .int y, .int v, zD] m_Mo_sum [.ref 139, .int x, .int y, .int v] := by
  obtain ⟨B, t, I, H, f, o, hC, hM, iB, iT, iI, iH⟩ := id hA
  obtain ⟨⟨F, hF, hR, f10, f11⟩, -, ⟨hbk, ⟨nw, hnw, hw⟩, hch⟩, -⟩ := id hC
  obtain ⟨⟨G, hG, gR, g5, g10, g30⟩, hm, ⟨-, hAr, -⟩, -⟩ := id hM
  obtain ⟨⟨⟨W, hW, -⟩, -⟩, -⟩ := id hw
  have hN := iB.1.2
  unfold PRl
  rcases Classical.em (twoQ B.1 x y) with ⟨r, s, hr, hs, hrs, rfl, rfl⟩ | hx
  · rcases qR_dec 6 v with ⟨j, hj, rfl⟩ | hv
    · refine b_BL_sum_0 ⟨⟨F, hF⟩, xP_y hF hR hbk hN hr hs hrs ⟨_, rfl, ifF (by decide) (ifF (nI_pos (by omega)) (ifT (show nI j ≤ nI 5 from nI_le (by omega) (by decide)) ⟨F, hF, _, hR.2.2.1, ⟨W, hW⟩, cW_lineOf hbk hw iB.2.2.2 iB.2.2.1.1 (by omega) (by omega) (by omega) (fun h1 FL K0 hw1 hf1 hFL hK0 fl11 hln => ⟨_, rfl, FL, hFL, _, hln.1, ?_⟩)⟩))⟩⟩
      obtain ⟨l1, l2, l8, l9, l10, l11⟩ := id hln
      have rA : ∀ z, (19 ≤ z ∧ z < 117) → 19 ≤ z ∧ z < 117 := fun z hz => hz
      have hG1 := (hf1 139 (by omega)).trans hG
      have hm1 := hm.fr hf1 (by omega)
      have hAr1 := hAr.fr hf1 (fun z a b w => by have w : 19 ≤ z ∧ z < 117 := w; omega)
      have fu := hf1.sub (B := up8) (fun z hz => by have hz : 19 ≤ z ∧ z < 117 := hz; show 8 ≤ z; omega)
      have mo : ∀ {Q : zQ} {e : Nat × Nat}, (∀ h2 G2, h2.2 139 = zO 10 G2 → lnM h2 G2 B.2.2.2 B.2.1 B.2.2.1 r s → AB h2 (k + 1) ∧ zFr up8 h h2 → (if (fR B.2.2.2 B.2.1 B.2.2.1 r s).1 = 0 then Q (some (Value.long (-4 : Int64))) h2 else (if nI j = 0 then (∃ F11, h2.2 139 = zO 10 F11 ∧ ∃ x12, F11 15 = Value.long x12 ∧ (Q (some (Value.long x12)) h2)) else if nI j = 1 then (∃ F13, h2.2 139 = zO 10 F13 ∧ ∃ x14, F13 16 = Value.long x14 ∧ (Q (some (Value.long x14)) h2)) else if nI j = 2 then (∃ F15, h2.2 139 = zO 10 F15 ∧ ∃ x16, F15 17 = Value.long x16 ∧ (Q (some (Value.long x16)) h2)) else if nI j = 3 then (∃ F17, h2.2 139 = zO 10 F17 ∧ ∃ x18, F17 18 = Value.long x18 ∧ (Q (some (Value.long x18)) h2)) else if nI j = 4 then (∃ F19, h2.2 139 = zO 10 F19 ∧ ∃ x20, F19 19 = Value.long x20 ∧ (Q (some (Value.long x20)) h2)) else (∃ F21, h2.2 139 = zO 10 F21 ∧ ∃ x22, F21 21 = Value.long x22 ∧ (Q (some (Value.long x22)) h2))))) → zW (d + 9) m_Mo_sum e 0 [.ref 139, .int (nI r), .int (nI s), .int (nI j)] [] h1 Q := fun w =>
        b_Mo_sum_0 ⟨⟨G, hG1⟩, mP_y hG1 gR hm1 hN hr hs hrs ⟨_, rfl, ifF (by decide) (mR_y (N := 5) (hi := 5) rfl rfl rfl (by decide) (by omega) ⟨_, rfl, ifF (by decide) ⟨⟨G, hG1⟩, cM_fits hG1 gR hm1 hAr1.1 hAr1.2.1 iB.2.2.2 iB.2.2.1.1 (by omega) (by omega) (fun h2 G2 hf2 hG2 gg hl => ⟨rfl, G2, hG2, _, hl.1, w h2 G2 hG2 hl (fit_end hC hM iB iT iI iH hnw hw1 hf1 rA gR g5 g10 g30 hf2 hG2 gg hl)⟩)⟩⟩)⟩⟩
      have cn := cnL_le (fR B.2.2.2 B.2.1 B.2.2.1 r s).2.1 16
      refine ifB (fun c => ⟨_, rfl, fu, ⟨G, hG1⟩, mo (fun h2 G2 hG2 hl ab => ifT c ⟨rfl, ab⟩)⟩) (fun c => ?_)
      rcases (show j = 0 ∨ j = 1 ∨ j = 2 ∨ j = 3 ∨ j = 4 ∨ j = 5 by omega) with rfl | rfl | rfl | rfl | rfl | rfl
      · refine ifT rfl ⟨FL, hFL, _, l2.1, _, rfl, fu, ⟨G, hG1⟩, mo (fun h2 G2 hG2 hl ab => ifF c (ifT rfl ⟨G2, hG2, _, hl.2.1.1, ?_, ab⟩))⟩
        rw [nI_l (by omega)]
      · exact ifF (by decide) (ifT rfl ⟨FL, hFL, _, l2.2.1, _, rfl, fu, ⟨G, hG1⟩, mo (fun h2 G2 hG2 hl ab => ifF c (ifF (by decide) (ifT rfl ⟨G2, hG2, _, hl.2.1.2.1, rfl, ab⟩)))⟩)
      · exact ifF (by decide) (ifF (by decide) (ifT rfl ⟨FL, hFL, _, l2.2.2.1, _, rfl, fu, ⟨G, hG1⟩, mo (fun h2 G2 hG2 hl ab => ifF c (ifF (by decide) (ifF (by decide) (ifT rfl ⟨G2, hG2, _, hl.2.1.2.2.1, rfl, ab⟩))))⟩))
      · exact ifF (by decide) (ifF (by decide) (ifF (by decide) (ifT rfl ⟨FL, hFL, _, l2.2.2.2.1, _, rfl, fu, ⟨G, hG1⟩, mo (fun h2 G2 hG2 hl ab => ifF c (ifF (by decide) (ifF (by decide) (ifF (by decide) (ifT rfl ⟨G2, hG2, _, hl.2.1.2.2.2.1, rfl, ab⟩)))))⟩)))
      · exact ifF (by decide) (ifF (by decide) (ifF (by decide) (ifF (by decide) (ifT rfl ⟨FL, hFL, _, l2.2.2.2.2.1, _, rfl, fu, ⟨G, hG1⟩, mo (fun h2 G2 hG2 hl ab => ifF c (ifF (by decide) (ifF (by decide) (ifF (by decide) (ifF (by decide) (ifT rfl ⟨G2, hG2, _, hl.2.1.2.2.2.2, rfl, ab⟩))))))⟩))))
      · exact ifF (by decide) (ifF (by decide) (ifF (by decide) (ifF (by decide) (ifF (by decide) ⟨FL, hFL, _, l9, _, rfl, fu, ⟨G, hG1⟩, mo (fun h2 G2 hG2 hl ab => ifF c (ifF (by decide) (ifF (by decide) (ifF (by decide) (ifF (by decide) (ifF (by decide) ⟨G2, hG2, _, (hl.2.2.1 c).2, rfl, ab⟩))))))⟩))))
    · have fin : ∃ z : Int64, some (Value.long (-1)) = some (.long z) ∧ zFr up8 h h ∧ (∃ G, h.2 139 = zO 10 G) ∧ zW (d + 9) m_Mo_sum h.1 0 [.ref 139, .int (nI r), .int (nI s), .int v] [] h (fun r2 h2 => r2 = some (.long z) ∧ AB h2 (k + 1) ∧ zFr up8 h h2) := ⟨_, rfl, zFr.rf, ⟨G, hG⟩, b_Mo_sum_0 ⟨⟨G, hG⟩, mP_y hG gR hm hN hr hs hrs ⟨_, rfl, ifF (by decide) (mR_n (N := 5) (hi := 5) rfl rfl rfl (by decide) hv ⟨_, rfl, ifT rfl ⟨rfl, hA.up, zFr.rf⟩⟩)⟩⟩⟩
      refine b_BL_sum_0 ⟨⟨F, hF⟩, xP_y hF hR hbk hN hr hs hrs ⟨_, rfl, ifF (by decide) (ifB (fun _ => fin) (fun c => ifF (fun w => ?_) fin))⟩⟩
      have := Int32.le_trans ((qR_n (by decide) hv).resolve_left c) w
      exact absurd this (by decide)
  · exact b_BL_sum_0 ⟨⟨F, hF⟩, xP_n hF hR hbk hN hx ⟨_, rfl, ifT rfl ⟨_, rfl, zFr.rf, ⟨G, hG⟩, b_Mo_sum_0 ⟨⟨G, hG⟩, mP_n hG gR hm hN hx ⟨_, rfl, ifT rfl ⟨rfl, hA.up, zFr.rf⟩⟩⟩⟩⟩⟩
theorem cM_struck_n {G : Nat → Value} {c : Nat} {v : Int32} (hG : h.2 139 = zO 10 G) (g24 : G 24 = .int (nI c)) (hv : nI c ≤ v) (K : Q (some (.int (-4))) h) : ∀ m b, b + m = 16 → zW (d + 1) m_Mo_struck e 24 [.ref 139, zD, zD, .int v, .int (nI b)] [] h Q := by
  intro m
  induction m with
  | zero =>
    intro b hb
    have : b = 16 := by omega
    subst this
    exact b_Mo_struck_24 (ifT (show nI 16 ≤ nI 16 from Int32.le_refl _) K)
  | succ m ih =>
    intro b hb
    refine b_Mo_struck_24 (ifF (show ¬ nI 16 ≤ nI b from nI_ge (by omega) (by decide)) ⟨G, hG, _, g24, ifT hv ?_⟩)
    rw [nI_1]
    exact ih (b + 1) (by omega)
theorem P_struck (hA : AB h k) (hk : k < 2 ^ 29) (x y v : Int32) : PRi (d + 9) h k m_BL_struck [.ref 8, .int x, .int y, .int v, zD] m_Mo_struck [.ref 139, .int x, .int y, .int v, zD] := by
  obtain ⟨B, t, I, H, f, o, hC, hM, iB, iT, iI, iH⟩ := id hA
  obtain ⟨⟨F, hF, hR, f10, f11⟩, -, ⟨hbk, ⟨nw, hnw, hw⟩, hch⟩, -⟩ := id hC
  obtain ⟨⟨G, hG, gR, g5, g10, g30⟩, hm, ⟨-, hAr, -⟩, -⟩ := id hM
  obtain ⟨⟨⟨W, hW, -⟩, -⟩, -⟩ := id hw
  have hN := iB.1.2
  unfold PRi
  rcases Classical.em (twoQ B.1 x y) with ⟨r, s, hr, hs, hrs, rfl, rfl⟩ | hx
  · by_cases hv : 0 ≤ v
    · obtain ⟨-, hc16, -⟩ := fR_ok (li := B.2.1) iB.2.2.2 iB.2.2.1.1 (show r < 7 by omega) (show s < 7 by omega)
      refine b_BL_struck_0 ⟨⟨F, hF⟩, xP_y hF hR hbk hN hr hs hrs ⟨_, rfl, ifF (by decide) (ifT hv ⟨F, hF, _, hR.2.2.1, ⟨W, hW⟩, cW_lineOf hbk hw iB.2.2.2 iB.2.2.1.1 (by omega) (by omega) (by omega) (fun h1 FL K0 hw1 hf1 hFL hK0 fl11 hln => ⟨_, rfl, FL, hFL, _, hln.2.2.2.2.1, ?_⟩)⟩)⟩⟩
      obtain ⟨l1, l2, l8, l9, l10, l11⟩ := id hln
      have rA : ∀ z, (19 ≤ z ∧ z < 117) → 19 ≤ z ∧ z < 117 := fun z hz => hz
      have hG1 := (hf1 139 (by omega)).trans hG
      have hm1 := hm.fr hf1 (by omega)
      have hAr1 := hAr.fr hf1 (fun z a b w => by have w : 19 ≤ z ∧ z < 117 := w; omega)
      have fu := hf1.sub (B := up8) (fun z hz => by have hz : 19 ≤ z ∧ z < 117 := hz; show 8 ≤ z; omega)
      have mo : ∀ {Q : zQ} {e : Nat × Nat}, (∀ h2 G2, h2.2 139 = zO 10 G2 → mR G2 → lnM h2 G2 B.2.2.2 B.2.1 B.2.2.1 r s → AB h2 (k + 1) ∧ zFr up8 h h2 → zW (d + 9) m_Mo_struck e 24 [.ref 139, zD, zD, .int v, .int (nI 0)] [] h2 Q) → zW (d + 9) m_Mo_struck e 0 [.ref 139, .int (nI r), .int (nI s), .int v, zD] [] h1 Q := fun w =>
        b_Mo_struck_0 ⟨⟨G, hG1⟩, mP_y hG1 gR hm1 hN hr hs hrs ⟨_, rfl, ifF (by decide) (ifT hv ⟨⟨G, hG1⟩, cM_fits hG1 gR hm1 hAr1.1 hAr1.2.1 iB.2.2.2 iB.2.2.1.1 (by omega) (by omega) (fun h2 G2 hf2 hG2 gg hl => ⟨rfl, w h2 G2 hG2 (mR_of gR (fun k hk => gg k (by omega))) hl (fit_end hC hM iB iT iI iH hnw hw1 hf1 rA gR g5 g10 g30 hf2 hG2 gg hl)⟩)⟩)⟩⟩
      refine ifB (fun c => ⟨_, rfl, fu, ⟨G, hG1⟩, mo (fun h2 G2 hG2 gR2 hl ab => cM_struck_n hG2 hl.2.2.2.1 c ⟨rfl, ab⟩ 16 0 rfl)⟩) (fun c => ?_)
      obtain ⟨i, hi, rfl⟩ := nI_of (Int32.not_lt.mpr hv)
      have hic := mt (nI_leI (a := (fR B.2.2.2 B.2.1 B.2.2.1 r s).2.2.1) (b := i) (by omega) hi).mpr c
      refine ⟨FL, hFL, _, fl11, 16, K0, hK0, zIn_nI (by omega) (by decide), _, rfl, fu, ⟨G, hG1⟩, mo (fun h2 G2 hG2 gR2 hl ab => cM_struck24 (k := i) hG2 gR2 hl (by omega) hc16 ⟨?_, ab⟩)⟩
      rw [if_pos (by omega), nI_clamp hi, l11 i (by omega)]
    · exact b_BL_struck_0 ⟨⟨F, hF⟩, xP_y hF hR hbk hN hr hs hrs ⟨_, rfl, ifF (by decide) (ifF hv ⟨_, rfl, zFr.rf, ⟨G, hG⟩, b_Mo_struck_0 ⟨⟨G, hG⟩, mP_y hG gR hm hN hr hs hrs ⟨_, rfl, ifF (by decide) (ifF hv ⟨rfl, hA.up, zFr.rf⟩)⟩⟩⟩)⟩⟩
  · exact b_BL_struck_0 ⟨⟨F, hF⟩, xP_n hF hR hbk hN hx ⟨_, rfl, ifT rfl ⟨_, rfl, zFr.rf, ⟨G, hG⟩, b_Mo_struck_0 ⟨⟨G, hG⟩, mP_n hG gR hm hN hx ⟨_, rfl, ifT rfl ⟨rfl, hA.up, zFr.rf⟩⟩⟩⟩⟩⟩
theorem P_far (hA : AB h k) (hk : k < 2 ^ 29) (x y v : Int32) : PRl (d + 9) h k m_BL_far [.ref 8, .int x, .int y, .int v, zD, zD, zD] m_Mo_far [.ref 139, .int x, .int y, .int v] := by
  obtain ⟨B, t, I, H, f, o, hC, hM, iB, iT, iI, iH⟩ := id hA
  obtain ⟨⟨F, hF, hR, f10, f11⟩, -, ⟨hbk, ⟨nw, hnw, hw⟩, hch⟩, -⟩ := id hC
  obtain ⟨⟨G, hG, gR, g5, g10, g30⟩, hm, ⟨-, hAr, -⟩, -⟩ := id hM
  obtain ⟨⟨⟨W, hW, -⟩, -⟩, -⟩ := id hw
  have hN := iB.1.2
  unfold PRl
  rcases Classical.em (twoQ B.1 x y) with ⟨r, s, hr, hs, hrs, rfl, rfl⟩ | hx
  · rcases qR_dec 16 v with ⟨b, hb, rfl⟩ | hv
    · refine b_BL_far_0 ⟨⟨F, hF⟩, xP_y hF hR hbk hN hr hs hrs ⟨_, rfl, ifF (by decide) (xB_y hb ⟨_, rfl, ifF (by decide) (b_BL_far_20 ⟨F, hF, _, hR.2.2.1, ⟨W, hW⟩, cW_lineOf hbk hw iB.2.2.2 iB.2.2.1.1 (by omega) (by omega) (by omega) (fun h1 FL K0 hw1 hf1 hFL hK0 fl11 hln => ⟨_, rfl, F, (hf1 8 (by omega)).trans hF, _, hR.2.2.2.1, ?_⟩)⟩)⟩)⟩⟩
      obtain ⟨l1, l2, l8, l9, l10, l11⟩ := id hln
      have rA : ∀ z, (19 ≤ z ∧ z < 117) → 19 ≤ z ∧ z < 117 := fun z hz => hz
      have hF1 := (hf1 8 (by omega)).trans hF
      have hG1 := (hf1 139 (by omega)).trans hG
      have hm1 := hm.fr hf1 (by omega)
      have hb1 := hbk.fr hf1 (by omega) (by omega)
      have ob1 : ∃ F, h1.2 15 = zO 0 F := hb1.1.imp fun _ w => w.1
      have hAr1 := hAr.fr hf1 (fun z a b w => by have w : 19 ≤ z ∧ z < 117 := w; omega)
      have fu := hf1.sub (B := up8) (fun z hz => by have hz : 19 ≤ z ∧ z < 117 := hz; show 8 ≤ z; omega)
      have mo : ∀ {Q : zQ} {e : Nat × Nat}, (∀ h2 G2, h2.2 139 = zO 10 G2 → mR G2 → msA h2 (nI B.1) B.2.1 B.2.2.1 B.2.2.2 → lnM h2 G2 B.2.2.2 B.2.1 B.2.2.1 r s → AB h2 (k + 1) ∧ zFr up8 h h2 → (if (fR B.2.2.2 B.2.1 B.2.2.1 r s).1 = 0 then Q (some (Value.long (-4 : Int64))) h2 else ∃ F11, h2.2 139 = zO 10 F11 ∧ ∃ x12, F11 22 = Value.ref x12 ∧ (∃ n13 f14, h2.2 x12 = zI 1 n13 f14 ∧ zIn (nI b) n13 ∧ ((if (f14 (nI b).toNatClampNeg) = 0 then Q (some (Value.long (-4 : Int64))) h2 else (∃ F25, h2.2 139 = zO 10 F25) ∧ zW (d + 8) m_Mo_farOf h2.1 0 [Value.ref 139, Value.int (nI b), Value.int (nI r), Value.int (nI s), zD, zD] [] h2 (fun r15 h16 => ∃ x17, r15 = some (Value.long x17) ∧ ((∃ F24, h16.2 139 = zO 10 F24) ∧ zW (d + 8) m_Mo_den h16.1 0 [Value.ref 139] [] h16 (fun r18 h19 => ∃ x20, r18 = some (Value.long x20) ∧ (zW (d + 8) m_Mo_upBy h19.1 0 [Value.long ((256 : Int64) * x17), zD, Value.long x20, zD] [] h19 (fun r21 h22 => ∃ x23, r21 = some (Value.long x23) ∧ (Q (some (Value.long x23)) h22))))))))))) → zW (d + 9) m_Mo_far e 0 [.ref 139, .int (nI r), .int (nI s), .int (nI b)] [] h1 Q := fun w =>
        b_Mo_far_0 ⟨⟨G, hG1⟩, mP_y hG1 gR hm1 hN hr hs hrs ⟨_, rfl, ifF (by decide) (mB_y hb ⟨_, rfl, ifF (by decide) ⟨⟨G, hG1⟩, cM_fits hG1 gR hm1 hAr1.1 hAr1.2.1 iB.2.2.2 iB.2.2.1.1 (by omega) (by omega) (fun h2 G2 hf2 hG2 gg hl => ⟨rfl, G2, hG2, _, hl.1, w h2 G2 hG2 (mR_of gR (fun k hk => gg k (by omega))) (hm1.fr hf2 (by decide)) hl (fit_end hC hM iB iT iI iH hnw hw1 hf1 rA gR g5 g10 g30 hf2 hG2 gg hl)⟩)⟩⟩)⟩⟩
      refine ⟨ob1, cB_stampAt hb1 (by omega) hb ⟨_, rfl, F, hF1, _, hR.2.2.2.1, ob1, cB_stampAt hb1 (by omega) hb ⟨_, rfl, FL, hFL, _, l1, ifB (fun c => ⟨_, rfl, fu, ⟨G, hG1⟩, mo (fun h2 G2 hG2 gR2 hm2 hl ab => ifT c ⟨rfl, ab⟩)⟩) (fun c => ?_)⟩⟩⟩
      have den0 := line_pos (li := B.2.1) iB.2.2.2 iB.2.2.1.1 (show r < 7 by omega) (show s < 7 by omega) c
      have nopt : ¬ (B.2.2.2 (16 * r + b) ≠ -4 ∧ B.2.2.2 (16 * s + b) ≠ -4) → ∃ z : Int64, some (Value.long (-4)) = some (.long z) ∧ zFr up8 h h1 ∧ (∃ G, h1.2 139 = zO 10 G) ∧ zW (d + 9) m_Mo_far h1.1 0 [.ref 139, .int (nI r), .int (nI s), .int (nI b)] [] h1 (fun r2 h2 => r2 = some (.long z) ∧ AB h2 (k + 1) ∧ zFr up8 h h2) := fun np => by
        refine ⟨_, rfl, fu, ⟨G, hG1⟩, mo (fun h2 G2 hG2 gR2 hm2 hl ab => ifF c ?_)⟩
        obtain ⟨p, hp, hpB⟩ := hl.2.2.2.2.1
        refine ⟨G2, hG2, _, gR2.2.2.2.2.2.1, 16, p, hp, zIn_nI hb (by decide), ifT ?_ ⟨rfl, ab⟩⟩
        rw [nI_clamp (by omega), hpB b hb]
        have : bothL B.2.2.2 r s b = false := by
          unfold bothL
          rw [decide_eq_true hb]
          by_cases q1 : B.2.2.2 (16 * r + b) ≠ -4
          · rw [decide_eq_false (fun q2 => np ⟨q1, q2⟩), Bool.and_false]; rfl
          · rw [decide_eq_false q1]; rfl
        rw [this]
        rfl
      refine ifB (fun q => nopt (fun w => w.1 q)) (fun q1 => ifB (fun q => nopt (fun w => w.2 q)) (fun q2 => ⟨⟨FL, hFL⟩, cL_farOf hFL l2 ⟨_, rfl, ⟨FL, hFL⟩, cL_partsUp hFL l2.2.2.2.2.2 den0 ⟨_, rfl, _, rfl, fu, ⟨G, hG1⟩, mo (fun h2 G2 hG2 gR2 hm2 hl ab => ifF c ?_)⟩⟩⟩))
      obtain ⟨p, hp, hpB⟩ := hl.2.2.2.2.1
      refine ⟨G2, hG2, _, gR2.2.2.2.2.2.1, 16, p, hp, zIn_nI hb (by decide), ifF ?_ ⟨⟨G2, hG2⟩, cM_farOf hG2 gR2 hm2 hl.2.1 (by omega) (by omega) hb ⟨_, rfl, ⟨G2, hG2⟩, cM_den hG2 hl.2.1 ⟨_, rfl, b_Mo_upBy_0 ⟨den0, _, rfl, rfl, ab⟩⟩⟩⟩⟩
      rw [nI_clamp (by omega), hpB b hb]
      have : bothL B.2.2.2 r s b = true := by
        unfold bothL
        rw [decide_eq_true hb, decide_eq_true q1, decide_eq_true q2]
        rfl
      rw [this]
      decide
    · exact b_BL_far_0 ⟨⟨F, hF⟩, xP_y hF hR hbk hN hr hs hrs ⟨_, rfl, ifF (by decide) (xB_n hv ⟨_, rfl, ifT rfl ⟨_, rfl, zFr.rf, ⟨G, hG⟩, b_Mo_far_0 ⟨⟨G, hG⟩, mP_y hG gR hm hN hr hs hrs ⟨_, rfl, ifF (by decide) (mB_n hv ⟨_, rfl, ifT rfl ⟨rfl, hA.up, zFr.rf⟩⟩)⟩⟩⟩⟩)⟩⟩
  · exact b_BL_far_0 ⟨⟨F, hF⟩, xP_n hF hR hbk hN hx ⟨_, rfl, ifT rfl ⟨_, rfl, zFr.rf, ⟨G, hG⟩, b_Mo_far_0 ⟨⟨G, hG⟩, mP_n hG gR hm hN hx ⟨_, rfl, ifT rfl ⟨rfl, hA.up, zFr.rf⟩⟩⟩⟩⟩⟩
end C
