/-! Drawing by a seed: the Model -/
section C
variable {d : Nat} {e : Nat × Nat} {h : zH} {Q : zQ} {G : Nat → Value} {x l q : Int32} {S : Nat → Int32} {n : Nat}
def mdI (h : zH) (G : Nat → Value) (x : Int32) (n : Nat) (l q : Int32) (h1 : zH) (b r : Nat) : Prop := mdA h1 G x (drT n b r) n ∧ msA h1 (nI n) l q (drP x n b r) ∧ zFr (fun z => z = 139 ∨ z = 140 ∨ z = 151 ∨ z = 152) h h1
theorem cM_draw83 (hR : mR G) (hn : n ≤ 7)
    (K : ∀ h', mdI h G x n l q h' 16 0 → zW (d + 3) m_Mo_draw e 74 [.ref 139, zD, .int (nI n), .int (nI 16), zD, zD, zD, zD] [] h' Q) :
    ∀ j b h1, b + j = 16 → mdI h G x n l q h1 b 0 → zW (d + 3) m_Mo_draw e 74 [.ref 139, zD, .int (nI n), .int (nI b), zD, zD, zD, zD] [] h1 Q := by
  have inner : ∀ b, b < 16 → (∀ h2, mdI h G x n l q h2 (b + 1) 0 → zW (d + 3) m_Mo_draw e 74 [.ref 139, zD, .int (nI n), .int (nI (b + 1)), zD, zD, zD, zD] [] h2 Q) →
      ∀ j r h1, r + j = n → mdI h G x n l q h1 b r → zW (d + 3) m_Mo_draw e 83 [.ref 139, zD, .int (nI n), .int (nI b), .int (nI r), zD, zD, zD] [] h1 Q := by
    intro b hb Kn j
    induction j with
    | zero =>
      intro r h1 hj hI
      obtain ⟨a1, a2, a3⟩ := hI
      have : r = n := by omega
      subst this
      refine b_Mo_draw_83 (ifT (Int32.le_refl _) ?_)
      rw [nI_1]
      refine Kn h1 ⟨?_, a2.congr (fun k _ => ?_), a3⟩
      · have : drT r b r = drT r (b + 1) 0 := by unfold drT; rw [Nat.add_mul]; omega
        rw [← this]; exact a1
      · unfold drP
        by_cases c : k / 16 < r ∧ (k % 16 < b ∨ (k % 16 = b ∧ k / 16 < r))
        · rw [if_pos c, if_pos (by omega)]
        · rw [if_neg c, if_neg (by omega)]
    | succ j ih =>
      intro r h1 hj hI
      obtain ⟨a1, a2, a3⟩ := hI
      have hr : r < n := by omega
      refine b_Mo_draw_83 (ifF (nI_ge (by omega) (by omega)) ⟨a1.1.imp fun _ w => w.1, cM_getsA a1 (fun h2 c1 f1 => ⟨_, rfl, c1.1.imp fun _ w => w.1, cM_getsA c1 (fun h3 c2 f2 => ⟨_, rfl, c2.1.imp fun _ w => w.1, cM_getsA c2 (fun h4 c3 f3 => ⟨_, rfl, by decide, ?_⟩)⟩)⟩)⟩)
      have f4 : zFr (fun z => z = 139) h1 h4 := (f1.trans f2).trans f3
      have m4 := a2.fr f4 (by decide)
      have A4 : zFr (fun z => z = 139 ∨ z = 140 ∨ z = 151 ∨ z = 152) h h4 := a3.trans (f4.sub (fun z hz => Or.inl hz))
      rw [nI_1]
      refine ifB (fun c => ?_) (fun c => ?_)
      · have ed : drS x n b r = -4 := if_pos (show m32 _ 4 = 0 from c)
        refine ih (r + 1) h4 (by omega) ⟨c3, m4.congr (fun k _ => ?_), A4⟩
        rw [← drP_put hb hr k, ed]
        by_cases ek : k = 16 * r + b
        · rw [ek, zU_same]
          unfold drP
          rw [if_neg (by omega)]
        · rw [zU_ne _ _ ek]
      · obtain ⟨⟨G1, hG1, g1, g33⟩, ⟨u, hu, hu2⟩, w, hw, hw2⟩ := id c3
        have hR1 : mR G1 := mR_of hR (fun k hk => g1 k (by omega))
        have fin : ∀ v, v = drS x n b r → ∃ n14 f15, h4.2 140 = zI 0 n14 f15 ∧ zIn (nI (3 + (16 * r + b))) n14 ∧ ∀ h16, h16 = zP h4 140 (zI 0 n14 (zU f15 (nI (3 + (16 * r + b))).toNatClampNeg v)) → zW (d + 3) m_Mo_draw e 83 [.ref 139, zD, .int (nI n), .int (nI b), .int (nI (r + 1)), zD, zD, zD] [] h16 Q := fun v hv => by
          obtain ⟨f, hf, hf2⟩ := m4.put (r := r) (b := b) (v := v) (by omega) hb
          refine ⟨115, f, hf, zIn_nI (by omega) (by decide), ?_⟩
          rintro h16 rfl
          rw [nI_clamp (by omega)]
          have h140 : zFr (fun z => z = 140) h4 (zP h4 140 (zI 0 115 (zU f (3 + (16 * r + b)) v))) := zFr.put rfl
          refine ih (r + 1) _ (by omega) ⟨c3.fr h140 (by decide) (by decide) (by decide), hf2.congr (fun k _ => ?_), A4.trans (h140.sub (fun z hz => Or.inr (Or.inl hz)))⟩
          rw [hv]
          exact drP_put hb hr k
        have ed : ¬ m32 (sdK x (drT n b r + 1)) 4 = 0 := c
        refine b_Mo_draw_114 ⟨G1, hG1, _, hR1.1, cM_at ⟨_, rfl, G1, hG1, _, hR1.2.2.2.2.2.2.2.2.2.2.2.1, 7, u, hu, zIn_nI (by omega) (by decide), G1, hG1, _, hR1.2.2.2.2.2.2.2.2.2.2.2.2.1, 7, w, hw, zIn_nI (by omega) (by decide), by decide, by decide, ?_⟩⟩
        rw [nI_clamp (show r < 2 ^ 31 by omega), hu2 r hr, hw2 r hr, nI_1 r]
        refine ifB (fun c2 => fin _ ?_) (fun c2 => fin _ ?_)
        · unfold drS
          rw [if_neg ed, if_pos (show m32 _ 9 = 0 from c2)]
          rfl
        · unfold drS
          rw [if_neg ed, if_neg (show ¬ m32 _ 9 = 0 from c2)]
          rfl
  intro j
  induction j with
  | zero =>
    intro b h1 hj hI
    have : b = 16 := by omega
    subst this
    exact K h1 hI
  | succ j ih =>
    intro b h1 hj hI
    exact b_Mo_draw_74 (ifF (show ¬ nI 16 ≤ nI b from nI_ge (by omega) (by decide)) (inner b (by omega) (fun h2 hI2 => ih (b + 1) h2 (by omega) hI2) n 0 h1 (by omega) hI))
end C
