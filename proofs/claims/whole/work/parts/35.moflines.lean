/-! The Model: over all lines -/
def ofF (S : Nat → Int32) (l q x : Int32) (r s : Nat) : Nat := if x = 7 then skN S l q r s else b1N (kdB S l q (if x = 4 then 2 else 1) r s)
theorem suP_cn (p : Nat → Nat → Bool) (N : Nat) : ∀ n, suP (fun r s => b1N (p r s)) N n = cnP p N n
  | 0 => rfl
  | n + 1 => by
    show suP _ N n + suN _ N = cnP p N n + cnL (p n) N
    rw [suP_cn p N n, cnL_su]
section C
variable {d : Nat} {e : Nat × Nat} {h : zH} {Q : zQ} {G : Nat → Value} {l q x : Int32} {S : Nat → Int32} {N r s : Nat}
theorem cM_ofLines (hG : h.2 139 = zO 10 G) (hR : mR G) (hm : msA h (nI N) l q S) (hp : ∃ p, h.2 145 = zI 1 16 p) (ho : ∃ o, h.2 146 = zI 0 16 o) (hS : StK S) (hq : 2 ≤ q) (hN : N ≤ 7)
    (K : ∀ h' G', h'.2 139 = zO 10 G' → mGf G G' → (∃ p, h'.2 145 = zI 1 16 p) → (∃ o, h'.2 146 = zI 0 16 o) → zFr (fun z => z = 139 ∨ z = 145 ∨ z = 146) h h' → Q (some (.int (nI (suP (ofF S l q x) N N)))) h') : zW (d + 5) m_Mo_ofLines e 0 [.ref 139, .int x, zD, zD, zD] [] h Q := by
  refine b_Mo_ofLines_0 ?_
  let I : zH → Prop := fun h1 => (∃ G1, h1.2 139 = zO 10 G1 ∧ mGf G G1) ∧ (∃ p, h1.2 145 = zI 1 16 p) ∧ (∃ o, h1.2 146 = zI 0 16 o) ∧ zFr (fun z => z = 139 ∨ z = 145 ∨ z = 146) h h1
  have inner : ∀ r, r < N → (∀ h2, I h2 → zW (d + 5) m_Mo_ofLines e 4 [.ref 139, .int x, .int (nI (suP (ofF S l q x) N (r + 1))), .int (nI (r + 1)), zD] [] h2 Q) → ∀ j s h1, s + j = N → I h1 → zW (d + 5) m_Mo_ofLines e 17 [.ref 139, .int x, .int (nI (suP (ofF S l q x) N r + suN (ofF S l q x r) s)), .int (nI r), .int (nI s)] [] h1 Q := by
    intro r hr Kn j
    induction j with
    | zero =>
      intro s h1 hj hI
      have : s = N := by omega
      subst this
      obtain ⟨⟨G1, hG1, g1⟩, a2, a3, hfr⟩ := id hI
      obtain ⟨st, hst, st0, -⟩ := hm.fr hfr (by decide)
      refine b_Mo_ofLines_17 ⟨G1, hG1, _, (g1.R hR).1, 115, st, hst, zi0, ?_⟩
      rw [show (0 : Int32).toNatClampNeg = 0 from rfl, st0, nI_1]
      exact ifT (Int32.le_refl _) (Kn h1 hI)
    | succ j ih =>
      intro s h1 hj hI
      have hs : s < N := by omega
      obtain ⟨⟨G1, hG1, g1⟩, a2, a3, hfr⟩ := id hI
      have hm1 := hm.fr hfr (by decide)
      obtain ⟨st, hst, st0, -⟩ := id hm1
      have add : ∀ h2 k, I h2 → k = ofF S l q x r s → zW (d + 5) m_Mo_ofLines e 17 [.ref 139, .int x, .int (nI (suP (ofF S l q x) N r + suN (ofF S l q x r) s) + nI k), .int (nI r), .int (nI (s + 1))] [] h2 Q := fun h2 k hI2 hk => by
        have := ih (s + 1) h2 (by omega) hI2
        rw [show suN (ofF S l q x r) (s + 1) = suN (ofF S l q x r) s + ofF S l q x r s from rfl, ← hk, ← Nat.add_assoc] at this
        rw [nI_add]
        exact this
      refine b_Mo_ofLines_17 ⟨G1, hG1, _, (g1.R hR).1, 115, st, hst, zi0, ?_⟩
      rw [show (0 : Int32).toNatClampNeg = 0 from rfl, st0, nI_1, nI_1]
      refine ifF (nI_ge hs (by omega)) (ifB (fun c => ?_) (fun c => ⟨⟨G1, hG1⟩, cM_fits hG1 (g1.R hR) hm1 a2 a3 hS hq (by omega) (by omega) (fun h2 G2 hf2 hG2 g2 hl2 => ⟨rfl, ?_⟩)⟩))
      · have ers := (nI_eq (by omega) (by omega)).mp c
        have := add h1 0 hI (by unfold ofF skN kdB b1N; simp [ers])
        rw [show ∀ z, nI z + nI 0 = nI z from fun z => Int32.add_zero _] at this
        exact this
      · have hrs : r ≠ s := fun w => c (by rw [w])
        have hI2 : I h2 := by
          obtain ⟨-, -, -, -, ⟨p, hp, -⟩, o, ho, -⟩ := id hl2
          exact ⟨⟨G2, hG2, fun k hk => (g2 k hk).trans (g1 k hk)⟩, ⟨p, hp⟩, ⟨o, ho⟩, hfr.trans hf2⟩
        refine ifB (fun c1 => ⟨G2, hG2, _, hl2.2.2.2.1, add h2 _ hI2 ?_⟩) (fun c1 => ⟨G2, hG2, _, hl2.1, ?_⟩)
        · unfold ofF skN
          rw [if_pos c1, if_neg hrs]
        · have fl : ∀ b : Bool, b1N b = ofF S l q x r s → zW (d + 4) m_Mo_flag h2.1 0 [.int (b01 b)] [] h2 (fun r11 h12 => ∃ x13, r11 = some (Value.int x13) ∧ zW (d + 5) m_Mo_ofLines e 17 [.ref 139, .int x, .int (nI (suP (ofF S l q x) N r + suN (ofF S l q x r) s) + x13), .int (nI r), .int (nI (s + 1))] [] h12 Q) := fun b hb => by
            refine cM_flag ⟨_, rfl, ?_⟩
            have := add h2 _ hI2 hb
            rw [show nI (b1N b) = b01 b by cases b <;> rfl] at this
            exact this
          have ev : ∀ (k : Int32) (b : Bool), (if x = 4 then (2 : Int32) else 1) = k → (b = decide ((fR S l q r s).1 = k)) → b1N b = ofF S l q x r s := fun k b hk hb => by
            unfold ofF kdB
            rw [if_neg c1, hk, hb]
            simp [hrs]
          refine ifB (fun c2 => ifB (fun c3 => fl true (ev 2 _ (if_pos c2) (by rw [c3]; rfl))) (fun c3 => fl false (ev 2 _ (if_pos c2) (by simp [c3])))) (fun c2 => ifB (fun c3 => fl true (ev 1 _ (if_neg c2) (by rw [c3]; rfl))) (fun c3 => fl false (ev 1 _ (if_neg c2) (by simp [c3]))))
  have outer : ∀ j r h1, r + j = N → I h1 → zW (d + 5) m_Mo_ofLines e 4 [.ref 139, .int x, .int (nI (suP (ofF S l q x) N r)), .int (nI r), zD] [] h1 Q := by
    intro j
    induction j with
    | zero =>
      intro r h1 hj hI
      have : r = N := by omega
      subst this
      obtain ⟨⟨G1, hG1, g1⟩, a2, a3, hfr⟩ := id hI
      obtain ⟨st, hst, st0, -⟩ := hm.fr hfr (by decide)
      refine b_Mo_ofLines_4 ⟨G1, hG1, _, (g1.R hR).1, 115, st, hst, zi0, ?_⟩
      rw [show (0 : Int32).toNatClampNeg = 0 from rfl, st0]
      exact ifT (Int32.le_refl _) (K h1 G1 hG1 g1 a2 a3 hfr)
    | succ j ih =>
      intro r h1 hj hI
      obtain ⟨⟨G1, hG1, g1⟩, a2, a3, hfr⟩ := id hI
      obtain ⟨st, hst, st0, -⟩ := hm.fr hfr (by decide)
      refine b_Mo_ofLines_4 ⟨G1, hG1, _, (g1.R hR).1, 115, st, hst, zi0, ?_⟩
      rw [show (0 : Int32).toNatClampNeg = 0 from rfl, st0]
      exact ifF (nI_ge (by omega) (by omega)) (inner r (by omega) (fun h2 hI2 => ih (r + 1) h2 (by omega) hI2) N 0 h1 (by omega) hI)
  exact outer N 0 h (by omega) ⟨⟨G, hG, fun _ _ => rfl⟩, hp, ho, zFr.rf⟩
end C
