/-! The Model: its lines -/
def mR (G : Nat → Value) : Prop := G 0 = .ref 140 ∧ G 1 = .ref 141 ∧ G 2 = .ref 142 ∧ G 3 = .ref 143 ∧ G 4 = .ref 144 ∧ G 22 = .ref 145 ∧ G 23 = .ref 146 ∧ G 25 = .ref 147 ∧ G 26 = .ref 148 ∧ G 27 = .ref 149 ∧ G 28 = .ref 150 ∧ G 34 = .ref 151 ∧ G 35 = .ref 152 ∧ G 36 = .ref 153 ∧ G 37 = .ref 154 ∧ G 38 = .ref 155
/-- what there is, in the Model -/
def msA (h : zH) (n l q : Int32) (S : Nat → Int32) : Prop := ∃ f, h.2 140 = zI 0 115 f ∧ f 0 = n ∧ f 1 = l ∧ f 2 = q ∧ ∀ k, k < 112 → f (3 + k) = S k
theorem msA.fr {A : Nat → Prop} {h h' : zH} {n l q : Int32} {S : Nat → Int32} (m : msA h n l q S) (f : zFr A h h') (hA : ¬ A 140) : msA h' n l q S := by
  obtain ⟨g, hg, q1⟩ := m
  exact ⟨g, by rw [f _ hA]; exact hg, q1⟩
/-- the points that are left, in the Model -/
def mpA (h : zH) (L : Nat → Bool) : Prop := ∃ p o, h.2 145 = zI 1 16 p ∧ h.2 146 = zI 0 16 o ∧ ∀ b, b < 16 → (p b = 0 ∨ p b = 1) ∧ L b = (decide (p b ≠ 0) && decide (o b = 0))
theorem mpA.fr {A : Nat → Prop} {h h' : zH} {L : Nat → Bool} (m : mpA h L) (f : zFr A h h') (h1 : ¬ A 145) (h2 : ¬ A 146) : mpA h' L := by
  obtain ⟨p, o, hp, ho, q⟩ := m
  exact ⟨p, o, by rw [f _ h1]; exact hp, by rw [f _ h2]; exact ho, q⟩
/-- the sums, in the Model -/
def mlS (G : Nat → Value) (S : Nat → Int32) (r s : Nat) (L : Nat → Bool) : Prop := G 15 = .long (lN (cnL L 16)) ∧ G 16 = .long (lX S r L) ∧ G 17 = .long (lX S s L) ∧ G 18 = .long (lxx S r L) ∧ G 19 = .long (lxy S r s L)
section C
variable {d : Nat} {e : Nat × Nat} {h : zH} {Q : zQ} {n l q : Int32} {S : Nat → Int32} {G : Nat → Value} {L : Nat → Bool} {r s b : Nat}
theorem ixM (r b : Nat) : 3 + 16 * nI r + nI b = nI (3 + (16 * r + b)) := by
  rw [show (16 : Int32) = nI 16 from rfl, show (3 : Int32) = nI 3 from rfl, pk_mul, nI_add, nI_add, Nat.add_assoc]
theorem cM_at (K : Q (some (.int (nI (3 + (16 * r + b))))) h) : zW (d + 1) m_Mo_at e 0 [.int (nI b), .int (nI r)] [] h Q := by
  refine b_Mo_at_0 ?_
  rw [ixM]
  exact K
theorem cM_den (hG : h.2 139 = zO 10 G) (hl : mlS G S r s L) (K : Q (some (.long (lden S r L))) h) : zW (d + 1) m_Mo_den e 0 [.ref 139] [] h Q := b_Mo_den_0 ⟨G, hG, _, hl.1, G, hG, _, hl.2.2.2.1, K⟩
theorem cM_sums (hG : h.2 139 = zO 10 G) (hR : mR G) (hm : msA h n l q S) (hp : mpA h L) (hr : r < 7) (hs : s < 7)
    (K : ∀ G', mlS G' S r s L → (∀ k, k < 15 ∨ 19 < k → G' k = G k) → Q none (zP h 139 (zO 10 G'))) : zW (d + 2) m_Mo_sums e 0 [.ref 139, .int (nI r), .int (nI s), zD, zD, zD, zD, zD, zD, zD, zD, zD] [] h Q := by
  refine b_Mo_sums_0 ⟨G, hG, ?_⟩
  rintro h2 rfl
  refine ⟨_, zP_same _ _ _, ?_⟩
  rintro h4 rfl
  rw [zP_zP]
  refine ⟨_, zP_same _ _ _, ?_⟩
  rintro h6 rfl
  rw [zP_zP]
  obtain ⟨st, hst, st0, st1, st2, st3⟩ := hm
  obtain ⟨p, o, hp1, ho1, hpo⟩ := hp
  have loop : ∀ k b (G1 : Nat → Value), b + k = 16 → G1 15 = .long (lN (cnL L b)) → G1 16 = .long (smL (pX S r) L b) → G1 17 = .long (smL (pX S s) L b) → (∀ k, k < 15 ∨ 19 < k → G1 k = G k) →
      zW (d + 2) m_Mo_sums e 23 [.ref 139, .int (nI r), .int (nI s), .long (smL (fun b => pX S r b * pX S r b) L b), zD, .long (smL (fun b => pX S r b * pX S s b) L b), zD, .int (nI b), zD, zD, zD, zD] [] (zP h 139 (zO 10 G1)) Q := by
    intro k
    induction k with
    | zero =>
      intro b G1 hk g1 g2 g3 go
      have : b = 16 := by omega
      subst this
      refine b_Mo_sums_23 (ifT (show nI 16 ≤ nI 16 from Int32.le_refl _) ⟨_, zP_same _ _ _, _, g1, _, zP_same _ _ _, _, g2, _, zP_same _ _ _, _, g2, _, zP_same _ _ _, ?_⟩)
      rintro h8 rfl
      rw [zP_zP]
      refine ⟨_, zP_same _ _ _, _, g1, _, zP_same _ _ _, _, g2, _, zP_same _ _ _, _, g3, _, zP_same _ _ _, ?_⟩
      rintro h16 rfl
      rw [zP_zP]
      refine K _ ⟨g1, g2, g3, rfl, rfl⟩ (fun j hj => ?_)
      rw [zU_ne _ _ (by omega), zU_ne _ _ (by omega)]
      exact go j hj
    | succ k ih =>
      intro b G1 hk g1 g2 g3 go
      have hb : b < 16 := by omega
      obtain ⟨p01, hL⟩ := hpo b hb
      have r0 : G1 0 = .ref 140 := (go 0 (by omega)).trans hR.1
      have r22 : G1 22 = .ref 145 := (go 22 (by omega)).trans hR.2.2.2.2.2.1
      have r23 : G1 23 = .ref 146 := (go 23 (by omega)).trans hR.2.2.2.2.2.2.1
      have no : L b = false → zW (d + 2) m_Mo_sums e 23 [.ref 139, .int (nI r), .int (nI s), .long (smL (fun b => pX S r b * pX S r b) L b), zD, .long (smL (fun b => pX S r b * pX S s b) L b), zD, .int (nI b + 1), zD, zD, zD, zD] [] (zP h 139 (zO 10 G1)) Q := fun c => by
        rw [nI_1]
        have e1 : ∀ g : Nat → Int64, smL g L (b + 1) = smL g L b := fun g => if_neg (by rw [c]; decide)
        have := ih (b + 1) G1 (by omega) (by rw [cnL_s0 c]; exact g1) (by rw [e1]; exact g2) (by rw [e1]; exact g3) go
        rw [e1, e1] at this
        exact this
      refine b_Mo_sums_23 (ifF (show ¬ nI 16 ≤ nI b from nI_ge (by omega) (by decide)) ⟨_, zP_same _ _ _, _, r22, 16, p, (zP_ne _ _ (by decide)).trans hp1, zIn_nI hb (by decide), ?_⟩)
      rw [nI_clamp (by omega)]
      refine ifB (fun c => no (by rw [hL]; simp [c])) (fun c => ⟨_, zP_same _ _ _, _, r23, 16, o, (zP_ne _ _ (by decide)).trans ho1, zIn_nI hb (by decide), ?_⟩)
      refine ifB (fun c2 => ⟨_, zP_same _ _ _, _, r0, cM_at ⟨_, rfl, 115, st, (zP_ne _ _ (by decide)).trans hst, zIn_nI (by omega) (by decide), ?_⟩⟩) (fun c2 => no (by rw [hL]; simp [c2]))
      rw [nI_clamp (by omega), st3 _ (by omega)]
      have cL : L b = true := by rw [hL]; simp [c, c2]
      refine b_Mo_sums_64 ⟨_, zP_same _ _ _, _, r0, cM_at ⟨_, rfl, 115, st, (zP_ne _ _ (by decide)).trans hst, zIn_nI (by omega) (by decide), _, zP_same _ _ _, _, g1, _, zP_same _ _ _, ?_⟩⟩
      rintro h11 rfl
      rw [zP_zP]
      refine ⟨_, zP_same _ _ _, _, g2, _, zP_same _ _ _, ?_⟩
      rintro h15 rfl
      rw [zP_zP]
      refine ⟨_, zP_same _ _ _, _, g3, _, zP_same _ _ _, ?_⟩
      rintro h19 rfl
      rw [zP_zP, nI_1, nI_clamp (by omega), st3 _ (by omega)]
      have e1 : ∀ g : Nat → Int64, smL g L (b + 1) = smL g L b + g b := fun g => if_pos cL
      have := ih (b + 1) (zU (zU (zU G1 15 (.long (lN (cnL L b) + 1))) 16 (.long (smL (pX S r) L b + pX S r b))) 17 (.long (smL (pX S s) L b + pX S s b))) (by omega) (by rw [cnL_s1 cL, ← lN_1]; rfl) (by rw [e1]; rfl) (by rw [e1]; rfl) (fun j hj => by rw [zU_ne _ _ (by omega), zU_ne _ _ (by omega), zU_ne _ _ (by omega)]; exact go j hj)
      rw [e1, e1] at this
      exact this
  refine loop 16 0 _ rfl rfl rfl rfl (fun j hj => ?_)
  rw [zU_ne _ _ (by omega), zU_ne _ _ (by omega), zU_ne _ _ (by omega)]
theorem cM_farOf (hG : h.2 139 = zO 10 G) (hR : mR G) (hm : msA h n l q S) (hl : mlS G S r s L) (hr : r < 7) (hs : s < 7) (hb : b < 16)
    (K : Q (some (.long (lfar S r s L b))) h) : zW (d + 2) m_Mo_farOf e 0 [.ref 139, .int (nI b), .int (nI r), .int (nI s), zD, zD] [] h Q := by
  obtain ⟨st, hst, st0, st1, st2, st3⟩ := hm
  obtain ⟨l1, l2, l3, l4, l5⟩ := hl
  refine b_Mo_farOf_0 ⟨G, hG, _, hR.1, cM_at ⟨_, rfl, 115, st, hst, zIn_nI (by omega) (by decide), G, hG, _, l1, G, hG, _, l4, G, hG, _, l3, G, hG, _, l4, G, hG, _, l5, G, hG, _, l1, G, hG, _, hR.1, cM_at ⟨_, rfl, 115, st, hst, zIn_nI (by omega) (by decide), G, hG, _, l2, ?_⟩⟩⟩
  rw [nI_clamp (by omega), nI_clamp (by omega), st3 _ (by omega), st3 _ (by omega), Int64.mul_assoc]
  unfold lfar abL at K
  show if 0 ≤ lg_cmp (lfr S r s L b) 0 then Q (some (.long (lfr S r s L b))) h else Q (some (.long (-(lfr S r s L b)))) h
  refine ifB (fun c => ?_) (fun c => ?_)
  · rw [if_pos (lc_ge.mp c)] at K; exact K
  · rw [if_neg (fun w => c (lc_ge.mpr w))] at K; exact K
theorem cM_findsFarthest (hG : h.2 139 = zO 10 G) (hR : mR G) (hm : msA h n l q S) (hp : mpA h L) (hl : mlS G S r s L) (hr : r < 7) (hs : s < 7)
    (K : ∀ G', G' 20 = .int (ffL S r s L 16).1 → G' 21 = .long (ffL S r s L 16).2 → (∀ k, k < 20 ∨ 21 < k → G' k = G k) → Q none (zP h 139 (zO 10 G'))) : zW (d + 3) m_Mo_findsFarthest e 0 [.ref 139, .int (nI r), .int (nI s), zD] [] h Q := by
  refine b_Mo_findsFarthest_0 ⟨G, hG, ?_⟩
  rintro h2 rfl
  refine ⟨_, zP_same _ _ _, ?_⟩
  rintro h4 rfl
  rw [zP_zP]
  obtain ⟨p, o, hp1, ho1, hpo⟩ := hp
  have loop : ∀ k b (G1 : Nat → Value), b + k = 16 → G1 20 = .int (ffL S r s L b).1 → G1 21 = .long (ffL S r s L b).2 → (∀ k, k < 20 ∨ 21 < k → G1 k = G k) →
      zW (d + 3) m_Mo_findsFarthest e 15 [.ref 139, .int (nI r), .int (nI s), .int (nI b)] [] (zP h 139 (zO 10 G1)) Q := by
    intro k
    induction k with
    | zero =>
      intro b G1 hk g1 g2 go
      have : b = 16 := by omega
      subst this
      exact b_Mo_findsFarthest_15 (ifT (show nI 16 ≤ nI 16 from Int32.le_refl _) (K G1 g1 g2 go))
    | succ k ih =>
      intro b G1 hk g1 g2 go
      have hb : b < 16 := by omega
      obtain ⟨p01, hL⟩ := hpo b hb
      have r0 : G1 0 = .ref 140 := (go 0 (by omega)).trans hR.1
      have r22 : G1 22 = .ref 145 := (go 22 (by omega)).trans hR.2.2.2.2.2.1
      have r23 : G1 23 = .ref 146 := (go 23 (by omega)).trans hR.2.2.2.2.2.2.1
      have far : ∀ (G2 : Nat → Value) {d' : Nat} {e' : Nat × Nat} {Q' : zQ}, (∀ k, k < 20 ∨ 21 < k → G2 k = G k) → Q' (some (.long (lfar S r s L b))) (zP h 139 (zO 10 G2)) → zW (d' + 2) m_Mo_farOf e' 0 [.ref 139, .int (nI b), .int (nI r), .int (nI s), zD, zD] [] (zP h 139 (zO 10 G2)) Q' := fun G2 d' e' Q' g K2 => by
        have hR2 : mR G2 := by
          unfold mR at hR ⊢
          rw [g 0 (by omega), g 1 (by omega), g 2 (by omega), g 3 (by omega), g 4 (by omega), g 22 (by omega), g 23 (by omega), g 25 (by omega), g 26 (by omega), g 27 (by omega), g 28 (by omega), g 34 (by omega), g 35 (by omega), g 36 (by omega), g 37 (by omega), g 38 (by omega)]
          exact hR
        have hl2 : mlS G2 S r s L := by
          unfold mlS at hl ⊢
          rw [g 15 (by omega), g 16 (by omega), g 17 (by omega), g 18 (by omega), g 19 (by omega)]
          exact hl
        exact cM_farOf (zP_same _ _ _) hR2 (hm.fr (zFr.put (A := fun z => z = 139) rfl) (by decide)) hl2 hr hs hb K2
      have no : ffL S r s L (b + 1) = ffL S r s L b → zW (d + 3) m_Mo_findsFarthest e 15 [.ref 139, .int (nI r), .int (nI s), .int (nI b + 1)] [] (zP h 139 (zO 10 G1)) Q := fun c => by
        rw [nI_1]
        exact ih (b + 1) G1 (by omega) (by rw [c]; exact g1) (by rw [c]; exact g2) go
      refine b_Mo_findsFarthest_15 (ifF (show ¬ nI 16 ≤ nI b from nI_ge (by omega) (by decide)) ⟨_, zP_same _ _ _, _, r22, 16, p, (zP_ne _ _ (by decide)).trans hp1, zIn_nI hb (by decide), ?_⟩)
      rw [nI_clamp (by omega)]
      refine ifB (fun c => no (if_neg (fun w => by rw [hL] at w; simp [c] at w))) (fun c => ⟨_, zP_same _ _ _, _, r23, 16, o, (zP_ne _ _ (by decide)).trans ho1, zIn_nI hb (by decide), ?_⟩)
      refine ifB (fun c2 => ⟨⟨_, zP_same _ _ _⟩, far G1 go ⟨_, rfl, _, zP_same _ _ _, _, g2, ?_⟩⟩) (fun c2 => no (if_neg (fun w => by rw [hL] at w; simp [c2] at w)))
      have cL : L b = true := by rw [hL]; simp [c, c2]
      refine ifB (fun c3 => no (if_neg (fun w => ?_))) (fun c3 => ⟨_, zP_same _ _ _, ?_⟩)
      · have := Int64.le_iff_toInt_le.mp (lc_le.mp c3)
        have := Int64.lt_iff_toInt_lt.mp w.2
        omega
      · rintro h15 rfl
        rw [zP_zP]
        have go2 : ∀ k, k < 20 ∨ 21 < k → zU G1 20 (.int (nI b)) k = G k := fun j hj => by rw [zU_ne _ _ (by omega)]; exact go j hj
        refine ⟨⟨_, zP_same _ _ _⟩, far _ go2 ⟨_, rfl, _, zP_same _ _ _, ?_⟩⟩
        rintro h20 rfl
        rw [zP_zP, nI_1]
        have ef : ffL S r s L (b + 1) = (nI b, lfar S r s L b) := if_pos ⟨cL, by
          have := mt lc_le.mpr c3
          rw [Int64.le_iff_toInt_le] at this
          rw [Int64.lt_iff_toInt_lt]
          omega⟩
        exact ih (b + 1) _ (by omega) (by rw [ef]; rfl) (by rw [ef]; rfl) (fun j hj => by rw [zU_ne _ _ (by omega)]; exact go2 j hj)
  exact loop 16 0 _ rfl rfl rfl (fun j hj => by rw [zU_ne _ _ (by omega), zU_ne _ _ (by omega)])
end C
