/-! The class answers as the Model does: set, shift -/
theorem xW_all {h h' : zH} {k nw : Nat} {B : bkT} {A : Nat → Prop} (hb : bkA h' 15 (nI B.1) B.2.1 B.2.2.1 B.2.2.2) (hw : wbA h' B.2.2.2 B.2.1 B.2.2.1 (nw + 1)) (hnw : nw ≤ k) (hc : chO h) (hf : zFr A h h') (hA : ∀ z, A z → ¬ (117 ≤ z ∧ z < 120)) : xW h' (k + 1) B := ⟨hb, ⟨nw + 1, by omega, hw⟩, hc.fr hf hA⟩
theorem mv_cn {S : Nat → Int32} {r : Nat} {c : Int32} (hm : mvA S r c 16) : ∀ k, k ≤ 16 → cnH (mvS S r c 16) r k = cnH S r k
  | 0, _ => rfl
  | k + 1, hk => by
    show cnH (mvS S r c 16) r k + _ = cnH S r k + _
    rw [mv_cn hm k (by omega)]
    congr 1
    have hq := hm k (by omega)
    by_cases c1 : S (16 * r + k) = -4
    · have e1 : mvS S r c 16 (16 * r + k) = S (16 * r + k) := by unfold mvS; exact if_neg (fun w => w.2.2 c1)
      rw [e1]
    · have e1 : mvS S r c 16 (16 * r + k) = S (16 * r + k) + c := by unfold mvS; exact if_pos ⟨by omega, by omega, c1⟩
      rw [e1, if_neg c1]
      refine if_neg (fun w => ?_)
      rcases hq with hq | hq
      · exact c1 hq
      · rw [w] at hq; exact hq.1 (by decide)
theorem mv_StK {S : Nat → Int32} {r : Nat} {c : Int32} (hr : r < 7) (hS : StK S) (hm : mvA S r c 16) : StK (mvS S r c 16) := fun j hj => by
  unfold mvS
  by_cases c1 : 16 * r ≤ j ∧ j < 16 * r + 16 ∧ S j ≠ -4
  · rw [if_pos c1]
    have hq := hm (j - 16 * r) (by omega)
    rw [show 16 * r + (j - 16 * r) = j by omega] at hq
    rcases hq with hq | hq
    · exact absurd hq c1.2.2
    · exact Or.inr ⟨Int32.not_lt.mp hq.1, hq.2⟩
  · rw [if_neg c1]; exact hS j hj
theorem rowE_mv {S : Nat → Int32} {r r2 : Nat} {c : Int32} (hr : r2 ≠ r) : rowE S (mvS S r c 16) r2 := fun b hb => by
  unfold mvS
  rw [if_neg (by omega)]
section C
variable {d : Nat} {e : Nat × Nat} {h : zH} {Q : zQ} {k : Nat}
theorem xLi_y {x : Int32} (hx : 0 ≤ x ∧ x ≤ 99) (K : Q (some (.int 1)) h) : zW (d + 1) m_BL_isLimit e 0 [.int x] [] h Q := b_BL_isLimit_0 (ifF (Int32.not_lt.mpr hx.1) (ifF (Int32.not_lt.mpr hx.2) ⟨by decide, K⟩))
theorem xLi_n {x : Int32} (hx : ¬ (0 ≤ x ∧ x ≤ 99)) (K : Q (some (.int 0)) h) : zW (d + 1) m_BL_isLimit e 0 [.int x] [] h Q := b_BL_isLimit_0 (ifB (fun _ => ⟨by decide, K⟩) (fun c => ifT (Int32.not_le.mp (fun w => hx ⟨Int32.not_lt.mp c, w⟩)) ⟨by decide, K⟩))
theorem xLe_y {x : Int32} (hx : 2 ≤ x ∧ x ≤ 6) (K : Q (some (.int 1)) h) : zW (d + 1) m_BL_isLeast e 0 [.int x] [] h Q := b_BL_isLeast_0 (ifF (Int32.not_lt.mpr hx.1) (ifF (Int32.not_lt.mpr hx.2) ⟨by decide, K⟩))
theorem xLe_n {x : Int32} (hx : ¬ (2 ≤ x ∧ x ≤ 6)) (K : Q (some (.int 0)) h) : zW (d + 1) m_BL_isLeast e 0 [.int x] [] h Q := b_BL_isLeast_0 (ifB (fun _ => ⟨by decide, K⟩) (fun c => ifT (Int32.not_le.mp (fun w => hx ⟨Int32.not_lt.mp c, w⟩)) ⟨by decide, K⟩))
theorem xCc_y {x : Int32} (hx : 1 ≤ x ∧ x ≤ 7) (K : Q (some (.int 1)) h) : zW (d + 1) m_BL_isClockCount e 0 [.int x] [] h Q := b_BL_isClockCount_0 (ifF (Int32.not_lt.mpr hx.1) (ifF (Int32.not_lt.mpr hx.2) ⟨by decide, K⟩))
theorem xCc_n {x : Int32} (hx : ¬ (1 ≤ x ∧ x ≤ 7)) (K : Q (some (.int 0)) h) : zW (d + 1) m_BL_isClockCount e 0 [.int x] [] h Q := b_BL_isClockCount_0 (ifB (fun _ => ⟨by decide, K⟩) (fun c => ifT (Int32.not_le.mp (fun w => hx ⟨Int32.not_lt.mp c, w⟩)) ⟨by decide, K⟩))
theorem P_set (hA : AB h k) (hk : k < 2 ^ 29) (x v : Int32) : PRi (d + 9) h k m_BL_set [.ref 8, .int x, .int v, zD] m_Mo_set [.ref 139, .int x, .int v, zD] := by
  obtain ⟨B, t, I, H, f, o, hC, hM, iB, iT, iI, iH⟩ := id hA
  obtain ⟨⟨F, hF, hR, f10, f11⟩, -, ⟨hbk, ⟨nw, hnw, hw⟩, hch⟩, -⟩ := id hC
  obtain ⟨⟨G, hG, gR, g5, g10, g30⟩, hm, -⟩ := id hM
  obtain ⟨st, hst, st0, st1, st2, st3⟩ := id hm
  obtain ⟨E, hE, e0, e1, e2, s0, s1, s2⟩ := hbk.set
  obtain ⟨⟨⟨W, hW, -⟩, -⟩, -⟩ := id hw
  unfold PRi
  by_cases c2 : x = 2
  · subst c2
    by_cases hv : 0 ≤ v ∧ v ≤ 99
    · refine b_BL_set_0 (ifT rfl (xLi_y hv ⟨_, rfl, ifF (by decide) ⟨F, hF, _, hR.2.2.2.1, E, hE, _, e1, F, hF, _, hR.2.2.2.1, E, hE, ?_⟩⟩))
      rintro h11 rfl
      have fr1 : zFr (fun z => z = 15) h (zP h 15 (zO 0 (zU E 1 (.int v)))) := zFr.put rfl
      refine ⟨F, (zP_ne _ _ (by decide)).trans hF, _, hR.2.2.1, ⟨W, (zP_ne _ _ (by decide)).trans hW⟩, cW_touchAll (S' := B.2.2.2) (l' := v) (q' := B.2.2.1) (hw.fr fr1 (fun z hz w => by have hz : z = 15 := hz; omega)) (by omega) (fun h2 hw2 hf2 => ⟨rfl, ?_⟩)⟩
      have hf12 : zFr (fun z => z = 14 ∨ z = 15 ∨ z = 18) h h2 := (fr1.sub (fun z hz => Or.inr (Or.inl hz))).trans (hf2.sub (fun z hz => by rcases hz with hz | hz; exact Or.inl hz; exact Or.inr (Or.inr hz)))
      refine ⟨_, rfl, hf12.sub (fun z hz => by rcases hz with rfl | rfl | rfl <;> decide), ⟨G, (hf12 _ (by decide)).trans hG⟩, ?_⟩
      refine b_Mo_set_0 (ifT rfl (mI_y (lo := 0) (hi := 99) rfl rfl hv ⟨_, rfl, ifF (by decide) (b_Mo_set_41 ⟨G, (hf12 _ (by decide)).trans hG, _, gR.1, 115, st, (hf12 _ (by decide)).trans hst, zi1, G, (hf12 _ (by decide)).trans hG, _, gR.1, 115, st, (hf12 _ (by decide)).trans hst, zi1, ?_⟩)⟩))
      rintro h9 rfl
      have fr3 : zFr (fun z => z = 140) h2 (zP h2 140 (zI 0 115 (zU st ((2 : Int32) - 1).toNatClampNeg v))) := zFr.put rfl
      refine ⟨congrArg (fun w => some (Value.int w)) st1, ⟨(B.1, v, B.2.2.1, B.2.2.2), t, I, H, f, o, ?_, ?_, ⟨iB.1, hv, iB.2.2⟩, iT, iI, iH⟩, (hf12.sub (fun z hz => by rcases hz with rfl | rfl | rfl <;> decide)).trans (fr3.sub (fun z hz => by rw [hz]; decide))⟩
      · exact CA.fr (CA.wb hC hf12 (fun z hz => by rcases hz with rfl | rfl | rfl <;> decide) (xW_all (B := (B.1, v, B.2.2.1, B.2.2.2)) ((s1 v).fr hf2 (by decide) (by decide)) hw2 hnw hch hf12 (fun z hz w => by have hz : z = 14 ∨ z = 15 ∨ z = 18 := hz; omega))) fr3 (fun z hz => by rw [hz]; decide)
      · refine MA.st (hM.fr hf12 (fun z hz => by rcases hz with rfl | rfl | rfl <;> decide)) fr3 (fun z hz => hz) ⟨_, zP_same _ _ _, st0, rfl, st2, fun i hi => ?_⟩
        rw [show ((2 : Int32) - 1).toNatClampNeg = 1 from rfl, zU_ne _ _ (by omega)]
        exact st3 i hi
    · exact b_BL_set_0 (ifT rfl (xLi_n hv ⟨_, rfl, ifT rfl (b_BL_set_37 (ifF (by decide) ⟨_, rfl, zFr.rf, ⟨G, hG⟩, b_Mo_set_0 (ifT rfl (mI_n (lo := 0) (hi := 99) rfl rfl hv ⟨_, rfl, ifT rfl ⟨rfl, hA.up, zFr.rf⟩⟩))⟩))⟩))
  · by_cases c3 : x = 3
    · subst c3
      by_cases hv : 2 ≤ v ∧ v ≤ 6
      · refine b_BL_set_0 (ifF (by decide) (b_BL_set_37 (ifT rfl (xLe_y hv ⟨_, rfl, ifF (by decide) ⟨F, hF, _, hR.2.2.2.1, E, hE, _, e2, F, hF, _, hR.2.2.2.1, E, hE, ?_⟩⟩))))
        rintro h11 rfl
        have fr1 : zFr (fun z => z = 15) h (zP h 15 (zO 0 (zU E 2 (.int v)))) := zFr.put rfl
        refine ⟨F, (zP_ne _ _ (by decide)).trans hF, _, hR.2.2.1, ⟨W, (zP_ne _ _ (by decide)).trans hW⟩, cW_touchAll (S' := B.2.2.2) (l' := B.2.1) (q' := v) (hw.fr fr1 (fun z hz w => by have hz : z = 15 := hz; omega)) (by omega) (fun h2 hw2 hf2 => ⟨rfl, ?_⟩)⟩
        have hf12 : zFr (fun z => z = 14 ∨ z = 15 ∨ z = 18) h h2 := (fr1.sub (fun z hz => Or.inr (Or.inl hz))).trans (hf2.sub (fun z hz => by rcases hz with hz | hz; exact Or.inl hz; exact Or.inr (Or.inr hz)))
        refine ⟨_, rfl, hf12.sub (fun z hz => by rcases hz with rfl | rfl | rfl <;> decide), ⟨G, (hf12 _ (by decide)).trans hG⟩, ?_⟩
        refine b_Mo_set_0 (ifF (by decide) (ifT rfl (mI_y (lo := 2) (hi := 6) rfl rfl hv ⟨_, rfl, ifF (by decide) (b_Mo_set_41 ⟨G, (hf12 _ (by decide)).trans hG, _, gR.1, 115, st, (hf12 _ (by decide)).trans hst, zi2, G, (hf12 _ (by decide)).trans hG, _, gR.1, 115, st, (hf12 _ (by decide)).trans hst, zi2, ?_⟩)⟩)))
        rintro h9 rfl
        have fr3 : zFr (fun z => z = 140) h2 (zP h2 140 (zI 0 115 (zU st ((3 : Int32) - 1).toNatClampNeg v))) := zFr.put rfl
        refine ⟨congrArg (fun w => some (Value.int w)) st2, ⟨(B.1, B.2.1, v, B.2.2.2), t, I, H, f, o, ?_, ?_, ⟨iB.1, iB.2.1, hv, iB.2.2.2⟩, iT, iI, iH⟩, (hf12.sub (fun z hz => by rcases hz with rfl | rfl | rfl <;> decide)).trans (fr3.sub (fun z hz => by rw [hz]; decide))⟩
        · exact CA.fr (CA.wb hC hf12 (fun z hz => by rcases hz with rfl | rfl | rfl <;> decide) (xW_all (B := (B.1, B.2.1, v, B.2.2.2)) ((s2 v).fr hf2 (by decide) (by decide)) hw2 hnw hch hf12 (fun z hz w => by have hz : z = 14 ∨ z = 15 ∨ z = 18 := hz; omega))) fr3 (fun z hz => by rw [hz]; decide)
        · refine MA.st (hM.fr hf12 (fun z hz => by rcases hz with rfl | rfl | rfl <;> decide)) fr3 (fun z hz => hz) ⟨_, zP_same _ _ _, st0, st1, rfl, fun i hi => ?_⟩
          rw [show ((3 : Int32) - 1).toNatClampNeg = 2 from rfl, zU_ne _ _ (by omega)]
          exact st3 i hi
      · exact b_BL_set_0 (ifF (by decide) (b_BL_set_37 (ifT rfl (xLe_n hv ⟨_, rfl, ifT rfl ⟨_, rfl, zFr.rf, ⟨G, hG⟩, b_Mo_set_0 (ifF (by decide) (ifT rfl (mI_n (lo := 2) (hi := 6) rfl rfl hv ⟨_, rfl, ifT rfl ⟨rfl, hA.up, zFr.rf⟩⟩)))⟩⟩))))
    · exact b_BL_set_0 (ifF c2 (b_BL_set_37 (ifF c3 ⟨_, rfl, zFr.rf, ⟨G, hG⟩, b_Mo_set_0 (ifF c2 (ifF c3 ⟨rfl, hA.up, zFr.rf⟩))⟩)))
theorem cM_shift29 {G : Nat → Value} {n l q c : Int32} {S : Nat → Int32} {r : Nat} (hG : h.2 139 = zO 10 G) (gR : mR G) (hm : msA h n l q S) (hr : r < 7)
    (K1 : mvA S r c 16 → zW (d + 3) m_Mo_shift e 102 [.ref 139, .int (nI r), .int c, zD, .int 0] [] h Q) (K0 : ¬ mvA S r c 16 → Q (some (.int (-2))) h) : zW (d + 3) m_Mo_shift e 29 [.ref 139, .int (nI r), .int c, .int 1, .int 0] [] h Q := by
  obtain ⟨st, hst, st0, st1, st2, st3⟩ := id hm
  have no : ∀ j b, b + j = 16 → ¬ mvA S r c 16 → zW (d + 3) m_Mo_shift e 29 [.ref 139, .int (nI r), .int c, .int 0, .int (nI b)] [] h Q := by
    intro j
    induction j with
    | zero =>
      intro b hj hn
      have : b = 16 := by omega
      subst this
      exact b_Mo_shift_29 (ifT (show nI 16 ≤ nI 16 from Int32.le_refl _) (ifT rfl (K0 hn)))
    | succ j ih =>
      intro b hj hn
      refine b_Mo_shift_29 (ifF (show ¬ nI 16 ≤ nI b from nI_ge (by omega) (by decide)) (ifT rfl ?_))
      rw [nI_1]
      exact ih (b + 1) (by omega) hn
  have yes : ∀ j b, b + j = 16 → mvA S r c b → zW (d + 3) m_Mo_shift e 29 [.ref 139, .int (nI r), .int c, .int 1, .int (nI b)] [] h Q := by
    intro j
    induction j with
    | zero =>
      intro b hj hn
      have : b = 16 := by omega
      subst this
      exact b_Mo_shift_29 (ifT (show nI 16 ≤ nI 16 from Int32.le_refl _) (ifF (by decide) (K1 hn)))
    | succ j ih =>
      intro b hj hn
      have next : mvO (S (16 * r + b)) c → mvA S r c (b + 1) := fun w i hi => by
        by_cases ei : i = b
        · rw [ei]; exact w
        · exact hn i (by omega)
      refine b_Mo_shift_29 (ifF (show ¬ nI 16 ≤ nI b from nI_ge (by omega) (by decide)) (ifF (by decide) ⟨G, hG, _, gR.1, cM_at ⟨_, rfl, 115, st, hst, zIn_nI (by omega) (by decide), ?_⟩⟩))
      rw [nI_1, nI_clamp (by omega), st3 _ (by omega)]
      refine ifB (fun c1 => ih (b + 1) (by omega) (next (Or.inl c1))) (fun c1 => ⟨G, hG, _, gR.1, cM_at ⟨_, rfl, 115, st, hst, zIn_nI (by omega) (by decide), ?_⟩⟩)
      rw [nI_clamp (by omega), st3 _ (by omega)]
      refine cM_inC (lo := 0) (hi := 9999) rfl rfl (fun w => ⟨_, rfl, ifF (by decide) (ih (b + 1) (by omega) (next (Or.inr ⟨Int32.not_lt.mpr w.1, w.2⟩)))⟩) (fun w => ⟨_, rfl, ifT rfl (no j (b + 1) (by omega) (fun v => ?_))⟩)
      rcases v b (by omega) with v | v
      · exact c1 v
      · exact w ⟨Int32.not_lt.mp v.1, v.2⟩
  exact yes 16 0 rfl (fun b hb => by omega)
theorem mvS_put {S : Nat → Int32} {r b : Nat} {c v : Int32} (hb : b < 16) (hv : v = if S (16 * r + b) = -4 then S (16 * r + b) + 0 else S (16 * r + b) + c) (j : Nat) : zU (mvS S r c b) (16 * r + b) v j = mvS S r c (b + 1) j := by
  by_cases ej : j = 16 * r + b
  · rw [ej, zU_same, hv]
    unfold mvS
    by_cases c1 : S (16 * r + b) = -4
    · rw [if_pos c1, if_neg (fun w => w.2.2 c1), Int32.add_zero]
    · rw [if_neg c1, if_pos ⟨by omega, by omega, c1⟩]
  · rw [zU_ne _ _ ej]
    unfold mvS
    by_cases c1 : 16 * r ≤ j ∧ j < 16 * r + b ∧ S j ≠ -4
    · rw [if_pos c1, if_pos ⟨c1.1, by omega, c1.2.2⟩]
    · rw [if_neg c1, if_neg (fun w => c1 ⟨w.1, by omega, w.2.2⟩)]
theorem cM_shift102 {G : Nat → Value} {n l q c : Int32} {S : Nat → Int32} {r : Nat} (hG : h.2 139 = zO 10 G) (gR : mR G) (hm : msA h n l q S) (hr : r < 7)
    (K : ∀ h', msA h' n l q (mvS S r c 16) → zFr (fun z => z = 140) h h' → Q (some (.int (nI (cnH (mvS S r c 16) r 16)))) h') : zW (d + 3) m_Mo_shift e 102 [.ref 139, .int (nI r), .int c, zD, .int 0] [] h Q := by
  have loop : ∀ j b h1, b + j = 16 → msA h1 n l q (mvS S r c b) → zFr (fun z => z = 140) h h1 → zW (d + 3) m_Mo_shift e 102 [.ref 139, .int (nI r), .int c, zD, .int (nI b)] [] h1 Q := by
    intro j
    induction j with
    | zero =>
      intro b h1 hj hm1 hf1
      have : b = 16 := by omega
      subst this
      have hG1 := (hf1 139 (by decide)).trans hG
      exact b_Mo_shift_102 (ifT (show nI 16 ≤ nI 16 from Int32.le_refl _) ⟨⟨G, hG1⟩, cM_stampsOf hG1 gR hm1 hr ⟨_, rfl, K h1 hm1 hf1⟩⟩)
    | succ j ih =>
      intro b h1 hj hm1 hf1
      have hG1 := (hf1 139 (by decide)).trans hG
      obtain ⟨st, hst, st0, st1, st2, st3⟩ := id hm1
      have e0 : mvS S r c b (16 * r + b) = S (16 * r + b) := by unfold mvS; rw [if_neg (by omega)]
      have stb : st (3 + (16 * r + b)) = S (16 * r + b) := (st3 _ (by omega)).trans e0
      refine b_Mo_shift_102 (ifF (show ¬ nI 16 ≤ nI b from nI_ge (by omega) (by decide)) ⟨G, hG1, _, gR.1, cM_at ⟨_, rfl, 115, st, hst, zIn_nI (by omega) (by decide), G, hG1, _, gR.1, cM_at ⟨_, rfl, 115, st, hst, zIn_nI (by omega) (by decide), ?_⟩⟩⟩)
      rw [nI_1, nI_clamp (by omega), stb]
      have key : ∀ v : Int32, v = (if S (16 * r + b) = -4 then S (16 * r + b) + 0 else S (16 * r + b) + c) → ∀ h21, h21 = zP h1 140 (zI 0 115 (zU st (3 + (16 * r + b)) v)) → zW (d + 3) m_Mo_shift e 102 [.ref 139, .int (nI r), .int c, zD, .int (nI (b + 1))] [] h21 Q := by
        rintro v hv h21 rfl
        obtain ⟨st', hst', hm2⟩ := msA.put (v := v) hm1 hr (show b < 16 by omega)
        have es : st' = st := zI_inj (hst'.symm.trans hst)
        rw [es] at hm2
        exact ih (b + 1) _ (by omega) (hm2.congr (fun i _ => mvS_put (by omega) hv i)) (hf1.trans (zFr.put rfl))
      refine ifB (fun c1 => ⟨115, st, hst, zIn_nI (by omega) (by decide), key _ (by rw [if_pos c1])⟩) (fun c1 => ⟨115, st, hst, zIn_nI (by omega) (by decide), key _ (by rw [if_neg c1])⟩)
  refine loop 16 0 h rfl (hm.congr (fun j _ => ?_)) zFr.rf
  unfold mvS
  rw [if_neg (by omega)]
theorem P_shift (hA : AB h k) (hk : k < 2 ^ 29) (x c : Int32) : PRi (d + 9) h k m_BL_shift [.ref 8, .int x, .int c] m_Mo_shift [.ref 139, .int x, .int c, zD, zD] := by
  obtain ⟨B, t, I, H, f, o, hC, hM, iB, iT, iI, iH⟩ := id hA
  obtain ⟨⟨F, hF, hR, f10, f11⟩, -, ⟨hbk, ⟨nw, hnw, hw⟩, hch⟩, -⟩ := id hC
  obtain ⟨⟨G, hG, gR, g5, g10, g30⟩, hm, -⟩ := id hM
  obtain ⟨⟨⟨W, hW, -⟩, -⟩, -⟩ := id hw
  have hN := iB.1.2
  have ob : ∃ F, h.2 15 = zO 0 F := hbk.1.imp fun _ w => w.1
  unfold PRi
  rcases qR_dec B.1 x with ⟨r, hr, rfl⟩ | hx
  · by_cases hc : -9999 ≤ c ∧ c ≤ 9999
    · refine b_BL_shift_0 ⟨F, hF, _, hR.2.2.2.1, ob, cB_has_y hbk hN hr ⟨_, rfl, ifF (by decide) (ifF (Int32.not_lt.mpr hc.1) (ifT hc.2 ⟨F, hF, _, hR.2.2.2.1, ob, cB_canMove hbk (by omega) (fun hv => ⟨_, rfl, ifF (by decide) ⟨F, hF, _, hR.2.2.1, ⟨W, hW⟩, cW_touch hw (by omega) (by omega) (fun r2 _ hne => rowE_mv (c := c) hne) (fun h1 hw1 hf1 => ⟨rfl, F, (hf1 8 (by decide)).trans hF, _, hR.2.2.2.1, ?_⟩)⟩⟩) (fun hv => ⟨_, rfl, ifT rfl ⟨_, rfl, zFr.rf, ⟨G, hG⟩, ?_⟩⟩)⟩))⟩⟩
      · have hb1 := hbk.fr hf1 (by decide) (by decide)
        refine ⟨hb1.1.imp fun _ w => w.1, cB_moveStamps hb1 (by omega) (fun h2 hb2 hf2 => ⟨_, rfl, _, rfl, ?_⟩)⟩
        have hf12 : zFr (fun z => z = 14 ∨ z = 16 ∨ z = 18) h h2 := (hf1.sub (fun z hz => by rcases hz with hz | hz; exact Or.inl hz; exact Or.inr (Or.inr hz))).trans (hf2.sub (fun z hz => Or.inr (Or.inl hz)))
        have hM1 := hM.fr hf12 (fun z hz => by rcases hz with rfl | rfl | rfl <;> decide)
        obtain ⟨⟨G1, hG1, gR1, -⟩, hm1, -⟩ := id hM1
        refine ⟨hf12.sub (fun z hz => by rcases hz with rfl | rfl | rfl <;> decide), ⟨G1, hG1⟩, b_Mo_shift_0 ⟨⟨G1, hG1⟩, mC_y hG1 gR1 hm1 hN hr ⟨_, rfl, ifF (by decide) (mI_y (lo := -9999) (hi := 9999) rfl rfl hc ⟨_, rfl, ifF (by decide) (cM_shift29 hG1 gR1 hm1 (by omega) (fun _ => cM_shift102 hG1 gR1 hm1 (by omega) (fun h3 hm3 hf3 => ?_)) (fun w => absurd hv w))⟩)⟩⟩⟩
        rw [mv_cn hv 16 (Nat.le_refl _)]
        refine ⟨rfl, ⟨(B.1, B.2.1, B.2.2.1, mvS B.2.2.2 r c 16), t, I, H, f, o, ?_, ?_, ⟨iB.1, iB.2.1, iB.2.2.1, mv_StK (by omega) iB.2.2.2 hv⟩, iT, iI, iH⟩, (hf12.sub (fun z hz => by rcases hz with rfl | rfl | rfl <;> decide)).trans (hf3.sub (fun z hz => by rw [hz]; decide))⟩
        · exact CA.fr (CA.wb hC hf12 (fun z hz => by rcases hz with rfl | rfl | rfl <;> decide) (xW_all (B := (B.1, B.2.1, B.2.2.1, mvS B.2.2.2 r c 16)) hb2 (hw1.fr hf2 (fun z hz w => by have hz : z = 15 + 1 := hz; omega)) hnw hch hf12 (fun z hz w => by have hz : z = 14 ∨ z = 16 ∨ z = 18 := hz; omega))) hf3 (fun z hz => by rw [hz]; decide)
        · exact MA.st hM1 hf3 (fun z hz => hz) hm3
      · refine b_Mo_shift_0 ⟨⟨G, hG⟩, mC_y hG gR hm hN hr ⟨_, rfl, ifF (by decide) (mI_y (lo := -9999) (hi := 9999) rfl rfl hc ⟨_, rfl, ifF (by decide) (cM_shift29 hG gR hm (by omega) (fun w => absurd w hv) (fun _ => ⟨rfl, hA.up, zFr.rf⟩))⟩)⟩⟩
    · have fin : ∃ z : Int32, some (Value.int (-1)) = some (.int z) ∧ zFr up8 h h ∧ (∃ G, h.2 139 = zO 10 G) ∧ zW (d + 9) m_Mo_shift h.1 0 [.ref 139, .int (nI r), .int c, zD, zD] [] h (fun r2 h2 => r2 = some (.int z) ∧ AB h2 (k + 1) ∧ zFr up8 h h2) := ⟨_, rfl, zFr.rf, ⟨G, hG⟩, b_Mo_shift_0 ⟨⟨G, hG⟩, mC_y hG gR hm hN hr ⟨_, rfl, ifF (by decide) (mI_n (lo := -9999) (hi := 9999) rfl rfl hc ⟨_, rfl, ifT rfl ⟨rfl, hA.up, zFr.rf⟩⟩)⟩⟩⟩
      exact b_BL_shift_0 ⟨F, hF, _, hR.2.2.2.1, ob, cB_has_y hbk hN hr ⟨_, rfl, ifF (by decide) (ifB (fun _ => fin) (fun w => ifF (fun w2 => hc ⟨Int32.not_lt.mp w, w2⟩) fin))⟩⟩
  · exact b_BL_shift_0 ⟨F, hF, _, hR.2.2.2.1, ob, cB_has_n hbk hN hx ⟨_, rfl, ifT rfl ⟨_, rfl, zFr.rf, ⟨G, hG⟩, b_Mo_shift_0 ⟨⟨G, hG⟩, mC_n hG gR hm hN hx ⟨_, rfl, ifT rfl ⟨rfl, hA.up, zFr.rf⟩⟩⟩⟩⟩⟩
end C
