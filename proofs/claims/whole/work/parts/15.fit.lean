/-! Line.fit, costs -/
def bothL (S : Nat → Int32) (r s : Nat) : Nat → Bool := fun b => decide (b < 16) && (decide (S (16 * r + b) ≠ -4) && decide (S (16 * s + b) ≠ -4))
theorem bothL_pt {S : Nat → Int32} {r s : Nat} : PtL S r s (bothL S r s) := fun b _ h => by
  unfold bothL at h
  simp only [Bool.and_eq_true, decide_eq_true_eq] at h
  exact h.2
def sk0 : Nat → Int32 := fun _ => 0
/-- THE LINE from r to s: what it is, the points that are left, how many were struck, which -/
def fR (S : Nat → Int32) (li le : Int32) (r s : Nat) : Int32 × (Nat → Bool) × Nat × (Nat → Int32) := fitL S r s li le 17 (bothL S r s) 0 sk0
/-- a Line's fields, once it is fitted -/
def lnR (F : Nat → Value) (K0 : Nat → Int32) (S : Nat → Int32) (li le : Int32) (r s : Nat) : Prop := F 1 = .int (fR S li le r s).1 ∧ lnS F S r s (fR S li le r s).2.1 ∧ F 8 = .int (ffL S r s (fR S li le r s).2.1 16).1 ∧ F 9 = .long (ffL S r s (fR S li le r s).2.1 16).2 ∧ F 10 = .int (nI (fR S li le r s).2.2.1) ∧ ∀ k, k < (fR S li le r s).2.2.1 → K0 k = (fR S li le r s).2.2.2 k
theorem lkd_m1 {S : Nat → Int32} {r s : Nat} {L : Nat → Bool} {li le : Int32} (h : lkd S r s L li le = -1) : ¬ nI (cnL L 16) < le ∧ lxx S r L ≠ 0 ∧ nI (cnL L 16) ≠ le := by
  unfold lkd at h
  split at h
  · exact absurd h (by decide)
  · rename_i c
    split at h
    · exact absurd h (by decide)
    · split at h
      · exact absurd h (by decide)
      · rename_i c3
        exact ⟨fun q => c (Or.inl q), fun q => c (Or.inr q), c3⟩
/-- what every fit keeps: the points left are heard by both; the struck and the left are not more than 16; it is settled -/
theorem fit_ok {S : Nat → Int32} {r s : Nat} {li le : Int32} (hS : StK S) (hr : r < 7) (hs : s < 7) (hle : 2 ≤ le) : ∀ k L c sk, PtL S r s L → cnL L 16 + 1 ≤ k → cnL L 16 + c ≤ 16 →
    PtL S r s (fitL S r s li le k L c sk).2.1 ∧ (fitL S r s li le k L c sk).2.2.1 ≤ 16 ∧ (fitL S r s li le k L c sk).1 = lkd S r s (fitL S r s li le k L c sk).2.1 li le ∧ (fitL S r s li le k L c sk).1 ≠ -1 ∧ c ≤ (fitL S r s li le k L c sk).2.2.1 ∧ (∀ j, j < c → (fitL S r s li le k L c sk).2.2.2 j = sk j)
  | 0, L, c, sk, _, h, _ => by omega
  | k + 1, L, c, sk, hL, h1, h2 => by
    unfold fitL
    by_cases hk : lkd S r s L li le = -1
    · rw [if_pos hk]
      have hpos : 0 < cnL L 16 := by
        have := (lkd_m1 hk).1
        rcases Nat.eq_zero_or_pos (cnL L 16) with q | q
        · exfalso
          apply this
          rw [q]
          exact Int32.lt_of_lt_of_le (show nI 0 < 2 by decide) hle
        · exact q
      rcases ff_ok hS hr hs hL 16 (Nat.le_refl _) with ⟨q, -⟩ | ⟨f, hf, hLf, e⟩
      · omega
      · rw [e]
        dsimp only
        rw [nI_clamp (by omega)]
        have hcn : cnL (rmL L f) 16 + 1 = cnL L 16 := by
          rcases cnL_rm (L := L) (f := f) 16 with ⟨-, q⟩ | ⟨-, q⟩
          · omega
          · rw [if_pos hLf] at q; exact q
        obtain ⟨g1, g2, g3, g4, g5, g6⟩ := fit_ok hS hr hs hle k (rmL L f) (c + 1) (zU sk c (nI f)) (PtL_rm hL) (by omega) (by omega)
        exact ⟨g1, g2, g3, g4, by omega, fun j hj => by rw [g6 j (by omega), zU_ne _ _ (by omega)]⟩
    · rw [if_neg hk]
      exact ⟨hL, by dsimp only; omega, rfl, hk, Nat.le_refl _, fun _ _ => rfl⟩
/-- two clocks' stamps alone count -/
def rowE (S S' : Nat → Int32) (r : Nat) : Prop := ∀ b, b < 16 → S (16 * r + b) = S' (16 * r + b)
theorem smL_congr {g g' : Nat → Int64} {L : Nat → Bool} : ∀ k, (∀ b, b < k → g b = g' b) → smL g L k = smL g' L k
  | 0, _ => rfl
  | k + 1, h => by
    unfold smL
    rw [smL_congr k (fun b hb => h b (by omega)), h k (by omega)]
section M
variable {S S' : Nat → Int32} {r s : Nat}
theorem pX_e (hr : rowE S S' r) {b : Nat} (hb : b < 16) : pX S r b = pX S' r b := by unfold pX; rw [hr b hb]
theorem lX_e (hr : rowE S S' r) (L : Nat → Bool) : lX S r L = lX S' r L := smL_congr 16 (fun b hb => pX_e hr hb)
theorem lxx_e (hr : rowE S S' r) (L : Nat → Bool) : lxx S r L = lxx S' r L := by
  have e1 : lSX S r L = lSX S' r L := smL_congr 16 (fun b hb => by rw [pX_e hr hb])
  unfold lxx
  rw [lX_e hr, e1]
theorem lxy_e (hr : rowE S S' r) (hs : rowE S S' s) (L : Nat → Bool) : lxy S r s L = lxy S' r s L := by
  have e1 : lSY S r s L = lSY S' r s L := smL_congr 16 (fun b hb => by rw [pX_e hr hb, pX_e hs hb])
  unfold lxy
  rw [lX_e hr, lX_e hs, e1]
theorem lden_e (hr : rowE S S' r) (L : Nat → Bool) : lden S r L = lden S' r L := by unfold lden; rw [lxx_e hr]
theorem lfar_e (hr : rowE S S' r) (hs : rowE S S' s) (L : Nat → Bool) {b : Nat} (hb : b < 16) : lfar S r s L b = lfar S' r s L b := by
  unfold lfar lfr
  rw [pX_e hr hb, pX_e hs hb, lden_e hr, lX_e hs, lxx_e hr, lxy_e hr hs, lX_e hr]
theorem ffL_e (hr : rowE S S' r) (hs : rowE S S' s) (L : Nat → Bool) : ∀ k, k ≤ 16 → ffL S r s L k = ffL S' r s L k
  | 0, _ => rfl
  | k + 1, h => by
    unfold ffL
    rw [ffL_e hr hs L k (by omega), lfar_e hr hs L (show k < 16 by omega)]
theorem lkd_e (hr : rowE S S' r) (hs : rowE S S' s) (L : Nat → Bool) (li le : Int32) : lkd S r s L li le = lkd S' r s L li le := by
  unfold lkd
  rw [lxx_e hr, ffL_e hr hs L 16 (Nat.le_refl _), lden_e hr]
theorem fitL_e (hr : rowE S S' r) (hs : rowE S S' s) (li le : Int32) : ∀ k L c sk, fitL S r s li le k L c sk = fitL S' r s li le k L c sk
  | 0, _, _, _ => rfl
  | k + 1, L, c, sk => by
    unfold fitL
    rw [lkd_e hr hs, ffL_e hr hs L 16 (Nat.le_refl _), fitL_e hr hs li le k]
theorem bothL_e (hr : rowE S S' r) (hs : rowE S S' s) : bothL S r s = bothL S' r s := by
  funext b
  unfold bothL
  by_cases hb : b < 16
  · rw [hr b hb, hs b hb]
  · simp [hb]
theorem fR_e (hr : rowE S S' r) (hs : rowE S S' s) (li le : Int32) : fR S li le r s = fR S' li le r s := by
  unfold fR
  rw [bothL_e hr hs, fitL_e hr hs]
theorem lnR_e (hr : rowE S S' r) (hs : rowE S S' s) {F : Nat → Value} {K0 : Nat → Int32} {li le : Int32} (h : lnR F K0 S li le r s) : lnR F K0 S' li le r s := by
  obtain ⟨h1, ⟨w2, w3, w4, w5, w6, w7⟩, h3, h4, h5, h6⟩ := h
  have e := fR_e hr hs li le
  unfold lnR lnS
  rw [e] at h1 w2 w3 w4 w5 w6 w7 h3 h4 h5 h6
  rw [lX_e hr] at w3
  rw [lX_e hs] at w4
  rw [lxx_e hr] at w5
  rw [lxy_e hr hs] at w6
  rw [lden_e hr] at w7
  rw [ffL_e hr hs _ 16 (Nat.le_refl _)] at h3 h4
  exact ⟨h1, ⟨w2, w3, w4, w5, w6, w7⟩, h3, h4, h5, h6⟩
end M
section C
variable {d : Nat} {e : Nat × Nat} {h : zH} {Q : zQ} {a : Nat} {n l q : Int32} {S : Nat → Int32} {F : Nat → Value} {L : Nat → Bool} {r s : Nat}
theorem cB_heardByBoth {a : Nat} (hb : bkA h a n l q S) (hr : r < 7) (hs : s < 7) (K : Q (some (.int (nI (mkL (bothL S r s) 16)))) h) : zW (d + 2) m_Book_heardByBoth e 0 [.ref a, .int (nI r), .int (nI s), zD, zD] [] h Q := by
  refine b_Book_heardByBoth_0 ?_
  have loop : ∀ k b, b + k = 16 → zW (d + 2) m_Book_heardByBoth e 5 [.ref a, .int (nI r), .int (nI s), .int (nI (mkL (bothL S r s) b)), .int (nI b)] [] h Q := by
    intro k
    induction k with
    | zero =>
      intro b hk
      have : b = 16 := by omega
      subst this
      exact b_Book_heardByBoth_5 (ifT (show nI 16 ≤ nI 16 from Int32.le_refl _) K)
    | succ k ih =>
      intro b hk
      have ih := ih (b + 1) (by omega)
      have no : bothL S r s b = false → zW (d + 2) m_Book_heardByBoth e 5 [.ref a, .int (nI r), .int (nI s), .int (nI (mkL (bothL S r s) b)), .int (nI b + 1)] [] h Q := fun c => by
        have e1 : mkL (bothL S r s) (b + 1) = mkL (bothL S r s) b := by
          show mkL (bothL S r s) b + (if bothL S r s b = true then 2 ^ b else 0) = _
          rw [c]; rfl
        rw [nI_1]
        rw [e1] at ih
        exact ih
      refine b_Book_heardByBoth_5 (ifF (show ¬ nI 16 ≤ nI b from nI_ge (by omega) (by decide)) ⟨hb.1.imp fun _ w => w.1, cB_stampAt hb hr (by omega) ⟨_, rfl, ifB (fun c => no ?_) (fun c => ⟨hb.1.imp fun _ w => w.1, cB_stampAt hb hs (by omega) ⟨_, rfl, ifB (fun c2 => no ?_) (fun c2 => ?_)⟩⟩)⟩⟩)
      · unfold bothL; simp [c]
      · unfold bothL; simp [c2]
      · rw [mk_or (by omega) (by unfold bothL; simp [c, c2]; omega), nI_1]
        exact ih
  exact loop 16 0 rfl
theorem cL_fit {K0 : Nat → Int32} (ha : 19 ≤ a) (hb : bkA h 15 n l q S) (hS : StK S) (hq : 2 ≤ q) (hF : h.2 a = zO 3 F) (hK0 : h.2 (a + 1) = zI 0 16 K0) (f11 : F 11 = .ref (a + 1)) (hr : r < 7) (hs : s < 7)
    (K : ∀ h' F' K', h'.2 a = zO 3 F' → h'.2 (a + 1) = zI 0 16 K' → zFr (fun z => z = a ∨ z = a + 1) h h' → lnR F' K' S l q r s → F' 0 = F 0 → F' 11 = .ref (a + 1) → Q none h') : zW (d + 3) m_Line_fit e 0 [.ref a, .ref 15, .int (nI r), .int (nI s), zD] [] h Q := by
  refine b_Line_fit_0 ⟨hb.1.imp fun _ w => w.1, cB_heardByBoth hb hr hs ⟨_, rfl, F, hF, ?_⟩⟩
  rintro h5 rfl
  refine ⟨_, zP_same _ _ _, ?_⟩
  rintro h7 rfl
  rw [zP_zP]
  refine ⟨_, zP_same _ _ _, ?_⟩
  rintro h9 rfl
  rw [zP_zP]
  have loop : ∀ k i (h1 : zH) (G : Nat → Value) (L : Nat → Bool) (sk K1 : Nat → Int32), i + k = 17 → h1.2 a = zO 3 G → h1.2 (a + 1) = zI 0 16 K1 → zFr (fun z => z = a ∨ z = a + 1) h h1 → G 0 = F 0 → G 11 = .ref (a + 1) → G 1 = .int (-1) → G 10 = .int (nI i) → G 12 = .int (nI (mkL L 16)) → PtL S r s L → cnL L 16 + i ≤ 16 → (∀ j, j < i → K1 j = sk j) → fitL S r s l q k L i sk = fR S l q r s →
      zW (d + 3) m_Line_fit e 23 [.ref a, .ref 15, .int (nI r), .int (nI s), .int (nI i)] [] h1 Q := by
    intro k
    induction k with
    | zero => intro i h1 G L sk K1 hk _ _ _ _ _ _ _ _ _ hcn; omega
    | succ k ih =>
      intro i h1 G L sk K1 hk hG hK1 hf g0 g11 g1 g10 g12 hL hcn hsk hfit
      have hb1 : bkA h1 15 n l q S := hb.fr hf (by omega) (by omega)
      refine b_Line_fit_23 (ifF (show ¬ nI 16 < nI i from nI_nlt (by omega) (by omega)) ⟨G, hG, _, g1, ifT rfl ⟨⟨_, hG⟩, cL_sumUp ha hb1 hG g12 hr hs (fun h2 F2 hF2 hf2 hls2 ho2 => ⟨rfl, ⟨_, hF2⟩, ?_⟩)⟩⟩)
      have hb2 : bkA h2 15 n l q S := hb1.fr hf2 (by omega) (by omega)
      have i12 : F2 12 = .int (nI (mkL L 16)) := (ho2 12 (by omega)).trans g12
      refine cL_findFarthest ha hb2 hF2 i12 hls2 hr hs (fun h3 F3 hF3 hf3 p8 p9 ho3 => ⟨rfl, ?_⟩)
      have hb3 : bkA h3 15 n l q S := hb2.fr hf3 (by omega) (by omega)
      have hls3 : lnS F3 S r s L := by
        obtain ⟨w2, w3, w4, w5, w6, w7⟩ := hls2
        exact ⟨(ho3 2 (by decide) (by decide)).trans w2, (ho3 3 (by decide) (by decide)).trans w3, (ho3 4 (by decide) (by decide)).trans w4, (ho3 5 (by decide) (by decide)).trans w5, (ho3 6 (by decide) (by decide)).trans w6, (ho3 7 (by decide) (by decide)).trans w7⟩
      obtain ⟨⟨B, hB, b0, b1, b2, b3⟩, -⟩ := id hb3
      refine ⟨B, hB, _, b1, B, hB, _, b2, ⟨_, hF3⟩, cL_judge hF3 hls3 p9 ⟨_, rfl, _, hF3, ?_⟩⟩
      rintro h15 rfl
      have hK3 : h3.2 (a + 1) = zI 0 16 K1 := by rw [hf3 _ (by omega), hf2 _ (by omega)]; exact hK1
      have hf13 : zFr (fun z => z = a ∨ z = a + 1) h h3 := (hf.trans (hf2.sub (fun _ w => Or.inl w))).trans (hf3.sub (fun _ w => Or.inl w))
      refine ⟨_, zP_same _ _ _, _, rfl, ifB (fun c => ⟨⟨_, zP_same _ _ _⟩, ?_⟩) (fun c => ?_)⟩
      · -- struck
        have hpos : 0 < cnL L 16 := by
          have := (lkd_m1 c).1
          rcases Nat.eq_zero_or_pos (cnL L 16) with w | w
          · exfalso
            apply this
            rw [w]
            exact Int32.lt_of_lt_of_le (show nI 0 < 2 by decide) hq
          · exact w
        rcases ff_ok hS hr hs hL 16 (Nat.le_refl _) with ⟨w, -⟩ | ⟨f, hf0, hLf, ef⟩
        · omega
        · have hcn2 : cnL (rmL L f) 16 + 1 = cnL L 16 := by
            rcases cnL_rm (L := L) (f := f) 16 with ⟨-, w⟩ | ⟨-, w⟩
            · omega
            · rw [if_pos hLf] at w; exact w
          rw [ef] at p8
          refine cL_strike (L := L) (c := i) (f := f) (K0 := K1) (zP_same _ _ _) ((zP_ne _ _ (by omega)).trans hK3) ((zU_ne _ _ (by decide)).trans p8) ((zU_ne _ _ (by decide)).trans ((ho3 10 (by decide) (by decide)).trans ((ho2 10 (by omega)).trans g10))) ((zU_ne _ _ (by decide)).trans ((ho3 11 (by decide) (by decide)).trans ((ho2 11 (by omega)).trans g11))) ((zU_ne _ _ (by decide)).trans ((ho3 12 (by decide) (by decide)).trans i12)) hf0 (by omega) (fun h4 F4 hF4 hK4 hf4 j10 j12 ho4 => ⟨rfl, ?_⟩)
          rw [nI_1]
          refine ih (i + 1) h4 F4 (rmL L f) (zU sk i (nI f)) _ (by omega) hF4 hK4 ((hf13.trans (zFr.put (Or.inl rfl))).trans hf4) ?_ ?_ ?_ j10 j12 (PtL_rm hL) (by omega) (fun j hj => ?_) ?_
          · rw [ho4 0 (by decide) (by decide), zU_ne _ _ (by decide), ho3 0 (by decide) (by decide), ho2 0 (by omega)]; exact g0
          · rw [ho4 11 (by decide) (by decide), zU_ne _ _ (by decide), ho3 11 (by decide) (by decide), ho2 11 (by omega)]; exact g11
          · rw [ho4 1 (by decide) (by decide), zU_same, c]
          · unfold zU
            split
            · rfl
            · exact hsk j (by omega)
          · rw [← hfit]
            have e1 : fitL S r s l q (k + 1) L i sk = if lkd S r s L l q = -1 then fitL S r s l q k (rmL L (ffL S r s L 16).1.toNatClampNeg) (i + 1) (zU sk i (ffL S r s L 16).1) else (lkd S r s L l q, L, i, sk) := rfl
            rw [e1, if_pos c, ef]
            dsimp only
            rw [nI_clamp (by omega)]
      · -- settled
        have e1 : fitL S r s l q (k + 1) L i sk = if lkd S r s L l q = -1 then fitL S r s l q k (rmL L (ffL S r s L 16).1.toNatClampNeg) (i + 1) (zU sk i (ffL S r s L 16).1) else (lkd S r s L l q, L, i, sk) := rfl
        rw [if_neg c] at e1
        rw [e1] at hfit
        have fin : Q none (zP h3 a (zO 3 (zU F3 1 (Value.int (lkd S r s L l q))))) := by
          refine K _ _ K1 (zP_same _ _ _) ((zP_ne _ _ (by omega)).trans hK3) (hf13.trans (zFr.put (Or.inl rfl))) ?_ ?_ ?_
          · unfold lnR
            rw [← hfit]
            dsimp only
            obtain ⟨w2, w3, w4, w5, w6, w7⟩ := hls3
            exact ⟨rfl, ⟨w2, w3, w4, w5, w6, w7⟩, p8, p9, (ho3 10 (by decide) (by decide)).trans ((ho2 10 (by omega)).trans g10), hsk⟩
          · rw [zU_ne _ _ (by decide), ho3 0 (by decide) (by decide), ho2 0 (by omega)]; exact g0
          · rw [zU_ne _ _ (by decide), ho3 11 (by decide) (by decide), ho2 11 (by omega)]; exact g11
        exact b_Line_fit_23 (ifB (fun _ => fin) (fun _ => ⟨_, zP_same _ _ _, _, rfl, ifF c fin⟩))
  have hc16 := cnL_le (bothL S r s) 16
  exact loop 17 0 _ _ (bothL S r s) sk0 K0 rfl (zP_same _ _ _) ((zP_ne _ _ (by omega)).trans hK0) (zFr.put (Or.inl rfl)) rfl f11 rfl rfl rfl bothL_pt (by omega) (fun j hj => by omega) rfl
/-- a FAR by DEN in 256ths, up -/
def ptU (f den : Int64) : Int64 := (256 * f + den - 1) / den
theorem cL_partsUp {f den : Int64} (hF : h.2 a = zO 3 F) (f7 : F 7 = .long den) (hd : den ≠ 0) (K : Q (some (.long (ptU f den))) h) : zW (d + 1) m_Line_partsUp e 0 [.ref a, .long f, zD] [] h Q :=
  b_Line_partsUp_0 ⟨F, hF, _, f7, ifF (fun w => hd (lc_eq.mp w)) ⟨F, hF, _, f7, F, hF, _, f7, hd, K⟩⟩
theorem cL_costOfGood {f den : Int64} (hF : h.2 a = zO 3 F) (f7 : F 7 = .long den) (f9 : F 9 = .long f) (hd : den ≠ 0) (K : Q (some (.int ((ptU f den).toInt32 + 1))) h) : zW (d + 2) m_Line_costOfGood e 0 [.ref a] [] h Q :=
  b_Line_costOfGood_0 ⟨F, hF, _, f9, ⟨F, hF⟩, cL_partsUp hF f7 hd ⟨_, rfl, K⟩⟩
end C
