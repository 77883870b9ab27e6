/-! Line: a fit -/
/-- the fields that sumUp writes -/
def lnS (F : Nat → Value) (S : Nat → Int32) (r s : Nat) (L : Nat → Bool) : Prop := F 2 = .int (nI (cnL L 16)) ∧ F 3 = .long (lX S r L) ∧ F 4 = .long (lX S s L) ∧ F 5 = .long (lxx S r L) ∧ F 6 = .long (lxy S r s L) ∧ F 7 = .long (lden S r L)
section C
variable {d : Nat} {e : Nat × Nat} {h : zH} {Q : zQ} {a : Nat} {n l q : Int32} {S : Nat → Int32} {F : Nat → Value} {L : Nat → Bool} {r s : Nat}
theorem cL_isLeft {b : Nat} (hF : h.2 a = zO 3 F) (f12 : F 12 = .int (nI (mkL L 16))) (hb : b < 16) (K1 : L b = true → Q (some (.int 1)) h) (K0 : L b = false → Q (some (.int 0)) h) : zW (d + 1) m_Line_isLeft e 0 [.ref a, .int (nI b)] [] h Q := by
  refine b_Line_isLeft_0 ⟨F, hF, _, f12, ?_⟩
  rw [mk_is hb]
  cases hL : L b with
  | true => exact ifT rfl ⟨by decide, K1 hL⟩
  | false => exact ifF (by decide) ⟨by decide, K0 hL⟩
theorem cL_farOf {px py : Int64} (hF : h.2 a = zO 3 F) (hs : lnS F S r s L) (K : Q (some (.long (abL (py * lden S r L - lX S s L * lxx S r L - lxy S r s L * (lN (cnL L 16) * px - lX S r L))))) h) : zW (d + 1) m_Line_farOf e 0 [.ref a, .long px, zD, .long py, zD, zD, zD] [] h Q := by
  obtain ⟨f2, f3, f4, f5, f6, f7⟩ := hs
  have hc := cnL_le L 16
  refine b_Line_farOf_0 ⟨F, hF, _, f7, F, hF, _, f4, F, hF, _, f5, F, hF, _, f6, F, hF, _, f2, F, hF, _, f3, ?_⟩
  rw [nI_l (by omega)]
  unfold abL at K
  refine ifB (fun c => ?_) (fun c => ?_)
  · rw [if_pos (lc_ge.mp c)] at K; exact K
  · rw [if_neg (fun w => c (lc_ge.mpr w))] at K; exact K
theorem cL_sumUp (ha : 19 ≤ a) (hb : bkA h 15 n l q S) (hF : h.2 a = zO 3 F) (f12 : F 12 = .int (nI (mkL L 16))) (hr : r < 7) (hs : s < 7)
    (K : ∀ h' F', h'.2 a = zO 3 F' → zFr (fun z => z = a) h h' → lnS F' S r s L → (∀ k, k < 2 ∨ 7 < k → F' k = F k) → Q none h') : zW (d + 2) m_Line_sumUp e 0 [.ref a, .ref 15, .int (nI r), .int (nI s), zD, zD, zD, zD, zD, zD, zD, zD, zD] [] h Q := by
  have hc := cnL_le L 16
  refine b_Line_sumUp_0 ⟨F, hF, _, f12, cJ_bitCount ⟨_, rfl, F, hF, ?_⟩⟩
  rintro h7 rfl
  refine ⟨_, zP_same _ _ _, ?_⟩
  rintro h9 rfl
  rw [zP_zP]
  refine ⟨_, zP_same _ _ _, ?_⟩
  rintro h11 rfl
  rw [zP_zP]
  have loop : ∀ k b (h1 : zH) (G : Nat → Value), b + k = 16 → h1.2 a = zO 3 G → zFr (fun z => z = a) h h1 → G 2 = .int (nI (cnL L 16)) → G 3 = .long (smL (pX S r) L b) → G 4 = .long (smL (pX S s) L b) → (∀ j, j < 2 ∨ 7 < j → G j = F j) →
      zW (d + 2) m_Line_sumUp e 30 [.ref a, .ref 15, .int (nI r), .int (nI s), .long (smL (fun b => pX S r b * pX S r b) L b), zD, .long (smL (fun b => pX S r b * pX S s b) L b), zD, .int (nI b), zD, zD, zD, zD] [] h1 Q := by
    intro k
    induction k with
    | zero =>
      intro b h1 G hk hG hf g2 g3 g4 go
      have : b = 16 := by omega
      subst this
      refine b_Line_sumUp_30 (ifT (show nI 16 ≤ nI 16 from Int32.le_refl _) ?_)
      refine b_Line_sumUp_114 ⟨G, hG, _, g2, G, hG, _, g3, G, hG, _, g3, G, hG, ?_⟩
      rintro h8 rfl
      refine ⟨_, zP_same _ _ _, _, g2, _, zP_same _ _ _, _, g3, _, zP_same _ _ _, _, g4, _, zP_same _ _ _, ?_⟩
      rintro h16 rfl
      rw [zP_zP]
      refine ⟨_, zP_same _ _ _, _, g2, _, zP_same _ _ _, _, rfl, _, zP_same _ _ _, ?_⟩
      rintro h22 rfl
      rw [zP_zP]
      have e2 : (nI (cnL L 16)).toInt64 = lN (cnL L 16) := nI_l (by omega)
      refine K _ _ (zP_same _ _ _) (hf.trans (zFr.put rfl)) ⟨g2, g3, g4, ?_, ?_, ?_⟩ (fun j hj => ?_)
      · show Value.long _ = _; rw [e2]; rfl
      · show Value.long _ = _; rw [e2]; rfl
      · show Value.long _ = _; rw [e2]; rfl
      · rw [zU_ne _ _ (by omega), zU_ne _ _ (by omega), zU_ne _ _ (by omega)]
        exact go j hj
    | succ k ih =>
      intro b h1 G hk hG hf g2 g3 g4 go
      have hb1 : bkA h1 15 n l q S := hb.fr hf (by omega) (by omega)
      have g12 : G 12 = .int (nI (mkL L 16)) := (go 12 (by omega)).trans f12
      refine b_Line_sumUp_30 (ifF (show ¬ nI 16 ≤ nI b from nI_ge (by omega) (by decide)) ⟨⟨_, hG⟩, cL_isLeft hG g12 (by omega) (fun c => ⟨_, rfl, ifF (by decide) ?_⟩) (fun c => ⟨_, rfl, ifT rfl ?_⟩)⟩)
      · refine b_Line_sumUp_46 ⟨hb1.1.imp fun _ w => w.1, cB_stampAt hb1 hr (by omega) ⟨_, rfl, hb1.1.imp fun _ w => w.1, cB_stampAt hb1 hs (by omega) ⟨_, rfl, G, hG, _, g3, G, hG, ?_⟩⟩⟩
        rintro h10 rfl
        refine ⟨_, zP_same _ _ _, _, g4, _, zP_same _ _ _, ?_⟩
        rintro h14 rfl
        rw [zP_zP, nI_1]
        have e1 : ∀ g : Nat → Int64, smL g L (b + 1) = smL g L b + g b := fun g => if_pos c
        have := ih (b + 1) (zP h1 a (zO 3 (zU (zU G 3 (.long (smL (pX S r) L b + pX S r b))) 4 (.long (smL (pX S s) L b + pX S s b))))) _ (by omega) (zP_same _ _ _) (hf.trans (zFr.put rfl)) g2 (by rw [e1]; rfl) (by rw [e1]; rfl) (fun j hj => by rw [zU_ne _ _ (by omega), zU_ne _ _ (by omega)]; exact go j hj)
        rw [e1, e1] at this
        exact this
      · rw [nI_1]
        have e1 : ∀ g : Nat → Int64, smL g L (b + 1) = smL g L b := fun g => if_neg (by rw [c]; decide)
        have := ih (b + 1) h1 G (by omega) hG hf g2 (by rw [e1]; exact g3) (by rw [e1]; exact g4) go
        rw [e1, e1] at this
        exact this
  refine loop 16 0 _ _ rfl (zP_same _ _ _) (zFr.put rfl) rfl rfl rfl (fun j hj => ?_)
  rw [zU_ne _ _ (by omega), zU_ne _ _ (by omega), zU_ne _ _ (by omega)]
theorem cL_findFarthest (ha : 19 ≤ a) (hb : bkA h 15 n l q S) (hF : h.2 a = zO 3 F) (f12 : F 12 = .int (nI (mkL L 16))) (hls : lnS F S r s L) (hr : r < 7) (hs : s < 7)
    (K : ∀ h' F', h'.2 a = zO 3 F' → zFr (fun z => z = a) h h' → F' 8 = .int (ffL S r s L 16).1 → F' 9 = .long (ffL S r s L 16).2 → (∀ k, k ≠ 8 → k ≠ 9 → F' k = F k) → Q none h') : zW (d + 2) m_Line_findFarthest e 0 [.ref a, .ref 15, .int (nI r), .int (nI s), zD, zD, zD] [] h Q := by
  refine b_Line_findFarthest_0 ⟨F, hF, ?_⟩
  rintro h2 rfl
  refine ⟨_, zP_same _ _ _, ?_⟩
  rintro h4 rfl
  rw [zP_zP]
  have loop : ∀ k b (h1 : zH) (G : Nat → Value), b + k = 16 → h1.2 a = zO 3 G → zFr (fun z => z = a) h h1 → G 8 = .int (ffL S r s L b).1 → G 9 = .long (ffL S r s L b).2 → (∀ j, j ≠ 8 → j ≠ 9 → G j = F j) →
      zW (d + 2) m_Line_findFarthest e 16 [.ref a, .ref 15, .int (nI r), .int (nI s), .int (nI b), zD, zD] [] h1 Q := by
    intro k
    induction k with
    | zero =>
      intro b h1 G hk hG hf g8 g9 go
      have : b = 16 := by omega
      subst this
      exact b_Line_findFarthest_16 (ifT (show nI 16 ≤ nI 16 from Int32.le_refl _) (K h1 G hG hf g8 g9 go))
    | succ k ih =>
      intro b h1 G hk hG hf g8 g9 go
      have hb1 : bkA h1 15 n l q S := hb.fr hf (by omega) (by omega)
      have g12 : G 12 = .int (nI (mkL L 16)) := (go 12 (by decide) (by decide)).trans f12
      obtain ⟨f2, f3, f4, f5, f6, f7⟩ := hls
      have gls : lnS G S r s L := ⟨(go 2 (by decide) (by decide)).trans f2, (go 3 (by decide) (by decide)).trans f3, (go 4 (by decide) (by decide)).trans f4, (go 5 (by decide) (by decide)).trans f5, (go 6 (by decide) (by decide)).trans f6, (go 7 (by decide) (by decide)).trans f7⟩
      have eff : ffL S r s L (b + 1) = if L b = true ∧ (ffL S r s L b).2 < lfar S r s L b then (nI b, lfar S r s L b) else ffL S r s L b := rfl
      refine b_Line_findFarthest_16 (ifF (show ¬ nI 16 ≤ nI b from nI_ge (by omega) (by decide)) ⟨⟨_, hG⟩, cL_isLeft hG g12 (by omega) (fun c => ⟨_, rfl, ifF (by decide) ⟨hb1.1.imp fun _ w => w.1, cB_stampAt hb1 hr (by omega) ⟨_, rfl, hb1.1.imp fun _ w => w.1, cB_stampAt hb1 hs (by omega) ⟨_, rfl, ⟨_, hG⟩, cL_farOf hG gls ⟨_, rfl, G, hG, _, g9, ifB (fun c2 => ?_) (fun c2 => ⟨G, hG, ?_⟩)⟩⟩⟩⟩⟩) (fun c => ⟨_, rfl, ifT rfl ?_⟩)⟩)
      · have hn : ¬ (L b = true ∧ (ffL S r s L b).2 < lfar S r s L b) := fun w => Int64.not_lt.mpr (lc_le.mp c2) w.2
        rw [if_neg hn] at eff
        rw [nI_1]
        exact ih (b + 1) h1 G (by omega) hG hf (by rw [eff]; exact g8) (by rw [eff]; exact g9) go
      · rintro h16 rfl
        refine ⟨_, zP_same _ _ _, ?_⟩
        rintro h18 rfl
        rw [zP_zP, nI_1]
        have hn : L b = true ∧ (ffL S r s L b).2 < lfar S r s L b := ⟨c, Int64.not_le.mp (fun w => c2 (lc_le.mpr w))⟩
        rw [if_pos hn] at eff
        refine ih (b + 1) _ _ (by omega) (zP_same _ _ _) (hf.trans (zFr.put rfl)) (by rw [eff]; rfl) (by rw [eff]; rfl) (fun j h8 h9 => ?_)
        rw [zU_ne _ _ h9, zU_ne _ _ h8]
        exact go j h8 h9
      · have hn : ¬ (L b = true ∧ (ffL S r s L b).2 < lfar S r s L b) := fun w => by rw [c] at w; exact absurd w.1 (by decide)
        rw [if_neg hn] at eff
        rw [nI_1]
        exact ih (b + 1) h1 G (by omega) hG hf (by rw [eff]; exact g8) (by rw [eff]; exact g9) go
  refine loop 16 0 _ _ rfl (zP_same _ _ _) (zFr.put rfl) rfl rfl (fun j h8 h9 => ?_)
  rw [zU_ne _ _ h9, zU_ne _ _ h8]
theorem cL_judge {li le : Int32} (hF : h.2 a = zO 3 F) (hls : lnS F S r s L) (f9 : F 9 = .long (ffL S r s L 16).2) (K : Q (some (.int (lkd S r s L li le))) h) : zW (d + 1) m_Line_judge e 0 [.ref a, .long li.toInt64, zD, .int le] [] h Q := by
  obtain ⟨f2, f3, f4, f5, f6, f7⟩ := hls
  unfold lkd at K
  refine b_Line_judge_0 ⟨F, hF, _, f2, ifB (fun c => ?_) (fun c => ⟨F, hF, _, f5, ifB (fun c2 => ?_) (fun c2 => ⟨F, hF, _, f9, F, hF, _, f7, ifB (fun c3 => ⟨F, hF, _, f2, ifB (fun c4 => ?_) (fun c4 => ?_)⟩) (fun c3 => ?_)⟩)⟩)⟩
  · rw [if_pos (Or.inl c)] at K; exact K
  · rw [if_pos (Or.inr (lc_eq.mp c2))] at K; exact K
  all_goals rw [if_neg (show ¬ (nI (cnL L 16) < le ∨ lxx S r L = 0) by rintro (w | w); exact c w; exact c2 (lc_eq.mpr w))] at K
  · rw [if_neg (Int64.not_le.mpr (lc_gt.mp c3)), if_pos c4] at K; exact K
  · rw [if_neg (Int64.not_le.mpr (lc_gt.mp c3)), if_neg c4] at K; exact K
  · rw [if_pos (Int64.not_lt.mp (fun w => c3 (lc_gt.mpr w)))] at K; exact K
theorem cL_strike {f c : Nat} {K0 : Nat → Int32} (hF : h.2 a = zO 3 F) (hK0 : h.2 (a + 1) = zI 0 16 K0) (f8 : F 8 = .int (nI f)) (f10 : F 10 = .int (nI c)) (f11 : F 11 = .ref (a + 1)) (f12 : F 12 = .int (nI (mkL L 16))) (hf : f < 16) (hc : c < 16)
    (K : ∀ h' F', h'.2 a = zO 3 F' → h'.2 (a + 1) = zI 0 16 (zU K0 c (nI f)) → zFr (fun z => z = a ∨ z = a + 1) h h' → F' 10 = .int (nI (c + 1)) → F' 12 = .int (nI (mkL (rmL L f) 16)) → (∀ k, k ≠ 10 → k ≠ 12 → F' k = F k) → Q none h') : zW (d + 1) m_Line_strikeFarthest e 0 [.ref a] [] h Q := by
  refine b_Line_strikeFarthest_0 ⟨F, hF, _, f8, ifF (nI_pos (by omega)) ⟨F, hF, _, f10, ifF (show ¬ nI 16 ≤ nI c from nI_ge hc (by decide)) ⟨F, hF, _, f11, F, hF, _, f10, F, hF, _, f8, 16, K0, hK0, zIn_nI hc (by decide), ?_⟩⟩⟩
  rintro h13 rfl
  rw [nI_clamp (by omega)]
  have hF1 : (zP h (a + 1) (zI 0 16 (zU K0 c (nI f)))).2 a = zO 3 F := (zP_ne _ _ (by omega)).trans hF
  refine ⟨F, hF1, _, f10, F, hF1, ?_⟩
  rintro h17 rfl
  refine ⟨_, zP_same _ _ _, _, f12, _, zP_same _ _ _, _, f8, _, zP_same _ _ _, ?_⟩
  rintro h23 rfl
  rw [zP_zP]
  refine K _ _ (zP_same _ _ _) ((zP_ne _ _ (by omega)).trans (zP_same _ _ _)) ((zFr.put (Or.inr rfl)).trans (zFr.put (Or.inl rfl))) ?_ ?_ (fun k h1 h2 => ?_)
  · show Value.int (nI c + 1) = _
    rw [nI_1]
  · show Value.int _ = _
    rw [mk_rm hf]
  · rw [zU_ne _ _ h2, zU_ne _ _ h1]
end C
