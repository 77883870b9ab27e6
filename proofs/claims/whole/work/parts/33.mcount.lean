/-! The Model: what is counted over lines and chains -/
section C
variable {d : Nat} {e : Nat × Nat} {h : zH} {Q : zQ} {G : Nat → Value} {c w : Nat → Nat → Nat} {l q : Int32} {S : Nat → Int32} {N a r s : Nat}
theorem cM_flag {b : Bool} (K : Q (some (.int (b01 b))) h) : zW (d + 1) m_Mo_flag e 0 [.int (b01 b)] [] h Q := by
  refine b_Mo_flag_0 ?_
  cases b with
  | true => exact ifF (by decide) K
  | false => exact ifT rfl K
theorem cM_reaches (hG : h.2 139 = zO 10 G) (hR : mR G) (hm : ∃ f, h.2 140 = zI 0 115 f ∧ f 0 = nI N) (hc : ∃ f, h.2 147 = zI 0 49 f ∧ ∀ r s, r < N → s < N → f (7 * r + s) = nI (c r s)) (h148 : ∃ f, h.2 148 = zI 0 7 f) (h149 : ∃ f, h.2 149 = zI 0 7 f) (hcw : cwR c w N) (hw : wOK w) (hN : N ≤ 7) (hr : r < N)
    (K : ∀ h', (∃ f, h'.2 148 = zI 0 7 f) → (∃ f, h'.2 149 = zI 0 7 f) → zFr (fun z => z = 148 ∨ z = 149) h h' → Q (some (.int (nI (cnL (rcB w N r) N)))) h') : zW (d + 3) m_Mo_reaches e 0 [.ref 139, .int (nI r), zD, zD] [] h Q := by
  refine b_Mo_reaches_0 ?_
  obtain ⟨st, hst, st0⟩ := hm
  have loop : ∀ j s h1, s + j = N → (∃ f, h1.2 148 = zI 0 7 f) → (∃ f, h1.2 149 = zI 0 7 f) → zFr (fun z => z = 148 ∨ z = 149) h h1 → zW (d + 3) m_Mo_reaches e 4 [.ref 139, .int (nI r), .int (nI (cnL (rcB w N r) s)), .int (nI s)] [] h1 Q := by
    intro j
    induction j with
    | zero =>
      intro s h1 hj a1 a2 hf1
      have : s = N := by omega
      subst this
      refine b_Mo_reaches_4 ⟨G, by rw [hf1 _ (by decide)]; exact hG, _, hR.1, 115, st, by rw [hf1 _ (by decide)]; exact hst, zi0, ?_⟩
      rw [show (0 : Int32).toNatClampNeg = 0 from rfl, st0]
      exact ifT (Int32.le_refl _) (K h1 a1 a2 hf1)
    | succ j ih =>
      intro s h1 hj a1 a2 hf1
      have hG1 : h1.2 139 = zO 10 G := by rw [hf1 _ (by decide)]; exact hG
      have hst1 : h1.2 140 = zI 0 115 st := by rw [hf1 _ (by decide)]; exact hst
      refine b_Mo_reaches_4 ⟨G, hG1, _, hR.1, 115, st, hst1, zi0, ?_⟩
      rw [show (0 : Int32).toNatClampNeg = 0 from rfl, st0]
      refine ifF (nI_ge (by omega) (by omega)) ⟨⟨G, hG1⟩, cM_findsLeast hG1 hR ⟨st, hst1, st0⟩ (hc.imp fun _ q => ⟨by rw [hf1 _ (by decide)]; exact q.1, q.2⟩) a1 a2 hcw hw hN (show s < N by omega) (fun h2 hc2 hf2 => ⟨rfl, G, by rw [hf2 _ (by decide)]; exact hG1, _, hR.2.2.2.2.2.2.2.2.1, ?_⟩)⟩
      obtain ⟨-, ⟨g, hg, hg2⟩, k, hk, -⟩ := hc2
      refine ⟨7, g, hg, zIn_nI (by omega) (by decide), ?_⟩
      rw [nI_clamp (by omega), hg2 r (by omega), nI_1]
      have hp := hp_bf hw hN (show s < N by omega) 6
      have hrb := hp.2.1 r
      have := ih (s + 1) h2 (by omega) ⟨g, hg⟩ ⟨k, hk⟩ (hf1.trans hf2)
      by_cases c1 : bfD w N s 6 r = bI
      · rw [cnL_s0 (by unfold rcB; rw [c1]; simp)] at this
        refine ifT (by unfold leE; rw [if_pos c1]) (cM_flag (b := false) ⟨_, rfl, ?_⟩)
        rw [show nI (cnL (rcB w N r) s) + b01 false = nI (cnL (rcB w N r) s) from Int32.add_zero _]
        exact this
      · have hb := hp_bd hN hp hr (by omega)
        rw [cnL_s1 (by unfold rcB; exact decide_eq_true (by omega))] at this
        refine ifF (fun w => ?_) (cM_flag (b := true) ⟨_, rfl, ?_⟩)
        · unfold leE at w
          rw [if_neg c1, le_big] at w
          have := (nI_eq (by omega) (by decide)).mp w
          omega
        · rw [show nI (cnL (rcB w N r) s) + b01 true = nI (cnL (rcB w N r) s + 1) from nI_1 _]
          exact this
  exact loop N 0 h (by omega) h148 h149 zFr.rf
theorem cs_kd (r s : Nat) : decide (0 < csN S l q r s) = kdB S l q 2 r s := by
  unfold csN
  cases c : kdB S l q 2 r s <;> simp
theorem cM_goodOf {b : Bool} (hG : h.2 139 = zO 10 G) (hR : mR G) (hm : msA h (nI N) l q S) (hA : mAr h) (hS : StK S) (hq : 2 ≤ q) (hli : 0 ≤ l) (hli2 : l ≤ 99) (hN : N ≤ 7) (hr : r < N)
    (K : ∀ h', mcI h G N l q S h' N 0 → Q (some (.int (nI (cnL (fun s => if b = true then kdB S l q 2 r s else kdB S l q 2 s r) N)))) h') : zW (d + 6) m_Mo_goodOf e 0 [.ref 139, .int (nI r), .int (b01 b), zD, zD] [] h Q := by
  refine b_Mo_goodOf_0 ⟨⟨G, hG⟩, cM_findsCosts hG hR hm hA.1 hA.2.1 hA.2.2.1 hS hq hli hli2 hN (fun h1 hI => ⟨rfl, ?_⟩)⟩
  obtain ⟨⟨G1, hG1, g1⟩, B1, B2, ⟨f, hf, hf2⟩, hfr⟩ := id hI
  have hR1 := g1.R hR
  obtain ⟨st, hst, st0, -⟩ := hm.fr hfr (by decide)
  have loop : ∀ j s, s + j = N → zW (d + 6) m_Mo_goodOf e 9 [.ref 139, .int (nI r), .int (b01 b), .int (nI (cnL (fun s => if b = true then kdB S l q 2 r s else kdB S l q 2 s r) s)), .int (nI s)] [] h1 Q := by
    intro j
    induction j with
    | zero =>
      intro s hj
      have : s = N := by omega
      subst this
      refine b_Mo_goodOf_9 ⟨G1, hG1, _, hR1.1, 115, st, hst, zi0, ?_⟩
      rw [show (0 : Int32).toNatClampNeg = 0 from rfl, st0]
      exact ifT (Int32.le_refl _) (K h1 hI)
    | succ j ih =>
      intro s hj
      have hs : s < N := by omega
      have next := ih (s + 1) (by omega)
      have fin : ∀ x y, x < N → y < N → (if b = true then kdB S l q 2 r s else kdB S l q 2 s r) = kdB S l q 2 x y → zW (d + 6) m_Mo_goodOf e 46 [.ref 139, .int (nI r), .int (b01 b), zD, .int (nI s)] [.int (nI (7 * x + y)), .ref 147, .int (nI (cnL (fun s => if b = true then kdB S l q 2 r s else kdB S l q 2 s r) s))] h1 Q := fun x y hx hy hxy => by
        have hcb := cs_bd (S := S) (r := x) (s := y) hS hq hli hli2 (by omega) (by omega)
        have hck := cs_kd (S := S) (l := l) (q := q) x y
        refine b_Mo_goodOf_46 ⟨49, f, hf, zIn_nI (by omega) (by decide), ?_⟩
        rw [nI_clamp (by omega), hf2 x y hx hy (Or.inl hx), nI_1]
        refine ifB (fun c1 => cM_flag (b := false) ⟨_, rfl, ?_⟩) (fun c1 => cM_flag (b := true) ⟨_, rfl, ?_⟩)
        · have c0 : csN S l q x y = 0 := by
            have := (nI_leI (a := csN S l q x y) (b := 0) (by omega) (by omega)).mp c1
            omega
          rw [cnL_s0 (by rw [hxy, ← hck, c0]; rfl)] at next
          rw [show ∀ z, nI z + b01 false = nI z from fun z => Int32.add_zero _]
          exact next
        · have c0 : 0 < csN S l q x y := by
            have := mt (nI_leI (a := csN S l q x y) (b := 0) (by omega) (by omega)).mpr c1
            omega
          rw [cnL_s1 (by rw [hxy, ← hck]; exact decide_eq_true c0)] at next
          rw [show ∀ z, nI z + b01 true = nI (z + 1) from fun z => nI_1 _]
          exact next
      refine b_Mo_goodOf_9 ⟨G1, hG1, _, hR1.1, 115, st, hst, zi0, ?_⟩
      rw [show (0 : Int32).toNatClampNeg = 0 from rfl, st0]
      refine ifF (nI_ge (by omega) (by omega)) ⟨G1, hG1, _, hR1.2.2.2.2.2.2.2.1, ?_⟩
      rw [ix7b, ix7b]
      cases b with
      | true => exact ifF (by decide) (fin r s hr hs rfl)
      | false => exact ifT rfl (fin s r hs hr rfl)
  exact loop N 0 (by omega)
end C
