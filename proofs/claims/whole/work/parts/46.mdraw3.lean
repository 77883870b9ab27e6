/-! Drawing by a seed: the Model, from the seeds on -/
section C
variable {d : Nat} {e : Nat × Nat} {h : zH} {Q : zQ} {G : Nat → Value} {x l q : Int32} {S : Nat → Int32} {n : Nat}
theorem cM_draw35 (hR : mR G) (hn : n ≤ 7)
    (K : ∀ h', mdI h G x n l q h' 16 0 → zW (d + 3) m_Mo_draw e 74 [.ref 139, zD, .int (nI n), .int (nI 16), zD, zD, zD, zD] [] h' Q) :
    ∀ j r h1, r + j = n → mdA h1 G x (2 * r) r → msA h1 (nI n) l q (fun _ => -4) → zFr (fun z => z = 139 ∨ z = 140 ∨ z = 151 ∨ z = 152) h h1 → zW (d + 3) m_Mo_draw e 35 [.ref 139, zD, .int (nI n), .int (nI r), zD, zD, zD, zD] [] h1 Q := by
  intro j
  induction j with
  | zero =>
    intro r h1 hj a1 a2 a3
    have : r = n := by omega
    subst this
    refine b_Mo_draw_35 (ifT (Int32.le_refl _) (cM_draw83 (h := h) (G := G) (x := x) (l := l) (q := q) hR hn K 16 0 h1 rfl ⟨?_, a2.congr (fun k _ => ?_), a3⟩))
    · rw [show drT r 0 0 = 2 * r by unfold drT; omega]; exact a1
    · unfold drP
      rw [if_neg (by omega)]
  | succ j ih =>
    intro r h1 hj a1 a2 a3
    obtain ⟨G1, hG1, g1, -⟩ := a1.1
    have hR1 : mR G1 := mR_of hR (fun k hk => g1 k (by omega))
    refine b_Mo_draw_35 (ifF (nI_ge (by omega) (by omega)) ⟨G1, hG1, _, hR1.2.2.2.2.2.2.2.2.2.2.2.1, ⟨G1, hG1⟩, cM_getsA a1 (fun h2 b1 b2 => ⟨_, rfl, by decide, ?_⟩)⟩)
    obtain ⟨⟨G2, hG2, p1, p2⟩, ⟨u, hu, hu2⟩, w, hw, hw2⟩ := b1
    have hR2 : mR G2 := mR_of hR (fun k hk => p1 k (by omega))
    refine ⟨7, u, hu, zIn_nI (by omega) (by decide), ?_⟩
    rintro h8 rfl
    have b3 : mdA (zP h2 151 (zI 0 7 (zU u r (ofI x r)))) G x (2 * r + 1) r := ⟨⟨G2, (zP_ne _ _ (by decide)).trans hG2, p1, p2⟩, ⟨_, zP_same _ _ _, fun r' hr' => by rw [zU_ne _ _ (by omega)]; exact hu2 r' hr'⟩, w, (zP_ne _ _ (by decide)).trans hw, hw2⟩
    rw [nI_clamp (by omega), nI_1]
    refine ⟨G2, (zP_ne _ _ (by decide)).trans hG2, _, hR2.2.2.2.2.2.2.2.2.2.2.2.2.1, ⟨G2, (zP_ne _ _ (by decide)).trans hG2⟩, cM_getsA b3 (fun h12 c1 c2 => ⟨_, rfl, by decide, ?_⟩)⟩
    obtain ⟨⟨G3, hG3, s1, s2⟩, -, w3, hw3, hw4⟩ := c1
    refine ⟨7, w3, hw3, zIn_nI (by omega) (by decide), ?_⟩
    rintro h16 rfl
    have frb : zFr (fun z => z = 139 ∨ z = 151 ∨ z = 152) h1 (zP h12 152 (zI 0 7 (zU w3 r (skI x r)))) := (((b2.sub (fun z hz => by omega)).trans (zFr.put (by omega))).trans (c2.sub (fun z hz => by omega))).trans (zFr.put (by omega))
    refine ih (r + 1) _ (by omega) ⟨⟨G3, (zP_ne _ _ (by decide)).trans hG3, s1, s2⟩, ⟨zU u r (ofI x r), (zP_ne _ _ (by decide)).trans (by rw [c2 _ (by decide)]; exact zP_same _ _ _), fun r' hr' => ?_⟩, _, zP_same _ _ _, fun r' hr' => ?_⟩ (a2.fr frb (by decide)) (a3.trans (frb.sub (fun z hz => by omega)))
    · by_cases er : r' = r
      · rw [er, zU_same]
      · rw [zU_ne _ _ er]; exact hu2 r' (by omega)
    · by_cases er : r' = r
      · rw [er, zU_same]; rfl
      · rw [zU_ne _ _ er]; exact hw4 r' (by omega)
end C
