/-! Drawing by a seed: the class fills a Book -/
theorem bkA.congr {h : zH} {a : Nat} {n l s : Int32} {S S' : Nat → Int32} (hb : bkA h a n l s S) (hS : ∀ k, k < 112 → S k = S' k) : bkA h a n l s S' := by
  obtain ⟨b1, S0, b2, b3⟩ := hb
  exact ⟨b1, S0, b2, fun k hk => (b3 k hk).trans (hS k hk)⟩
section C
variable {d : Nat} {e : Nat × Nat} {h : zH} {Q : zQ} {x n0 l q : Int32} {S : Nat → Int32} {n : Nat}
theorem drP_put {b r : Nat} (hb : b < 16) (hr : r < n) (k : Nat) : zU (drP x n b r) (16 * r + b) (drS x n b r) k = drP x n b (r + 1) k := by
  by_cases e : k = 16 * r + b
  · rw [e, zU_same]
    unfold drP
    rw [show (16 * r + b) / 16 = r by omega, show (16 * r + b) % 16 = b by omega, if_pos ⟨hr, Or.inr ⟨rfl, Nat.lt_succ_self r⟩⟩]
  · rw [zU_ne _ _ e]
    unfold drP
    by_cases c : k / 16 < n ∧ (k % 16 < b ∨ (k % 16 = b ∧ k / 16 < r))
    · rw [if_pos c, if_pos (by omega)]
    · rw [if_neg c, if_neg (by omega)]
theorem cD_fill {x0 : Int32} {k0 : Nat} (hc : drA h x0 k0 0) (hb : bkA h 15 n0 l q S) (hn : n ≤ 7)
    (K : ∀ h', drA h' x (drT n 16 0) n → bkA h' 15 (nI n) l q (drP x n 16 0) → zFr (fun z => z = 15 ∨ z = 16 ∨ z = 120 ∨ z = 121 ∨ z = 122) h h' → Q none h') : zW (d + 3) m_Drawer_fill e 0 [.ref 120, .ref 15, .int x, .int (nI n), zD, zD] [] h Q := by
  obtain ⟨⟨F, hF, f0, f1, f2⟩, ⟨f, hf, -⟩, g, hg, -⟩ := hc
  refine b_Drawer_fill_0 ⟨F, hF, ?_⟩
  rintro h2 rfl
  have h120 : zFr (fun z => z = 120) h (zP h 120 (zO 2 (zU F 2 (.int x)))) := zFr.put rfl
  have c2 : drA (zP h 120 (zO 2 (zU F 2 (.int x)))) x 0 0 := ⟨⟨_, zP_same _ _ _, f0, f1, rfl⟩, ⟨f, (zP_ne _ _ (by decide)).trans hf, fun r hr => absurd hr (Nat.not_lt_zero r)⟩, g, (zP_ne _ _ (by decide)).trans hg, fun r hr => absurd hr (Nat.not_lt_zero r)⟩
  have hb2 := hb.fr h120 (by decide) (by decide)
  refine ⟨hb2.1.imp fun _ w => w.1, cB_startWith hb2 (fun h4 hb4 hf4 => ⟨rfl, ?_⟩)⟩
  have c4 := c2.fr hf4 (by decide) (by decide) (by decide)
  have A4 : zFr (fun z => z = 15 ∨ z = 16 ∨ z = 120 ∨ z = 121 ∨ z = 122) h h4 := (h120.sub (fun z hz => by omega)).trans (hf4.sub (fun z hz => by omega))
  have inner : ∀ b, b < 16 → (∀ h2, drA h2 x (drT n (b + 1) 0) n → bkA h2 15 (nI n) l q (drP x n (b + 1) 0) → zFr (fun z => z = 15 ∨ z = 16 ∨ z = 120 ∨ z = 121 ∨ z = 122) h h2 → zW (d + 3) m_Drawer_fill e 56 [.ref 120, .ref 15, zD, .int (nI n), .int (nI (b + 1)), zD] [] h2 Q) →
      ∀ j r h1, r + j = n → drA h1 x (drT n b r) n → bkA h1 15 (nI n) l q (drP x n b r) → zFr (fun z => z = 15 ∨ z = 16 ∨ z = 120 ∨ z = 121 ∨ z = 122) h h1 → zW (d + 3) m_Drawer_fill e 66 [.ref 120, .ref 15, zD, .int (nI n), .int (nI b), .int (nI r)] [] h1 Q := by
    intro b hb16 Kn j
    induction j with
    | zero =>
      intro r h1 hj a1 a2 a3
      have : r = n := by omega
      subst this
      refine b_Drawer_fill_66 (ifT (Int32.le_refl _) ?_)
      rw [nI_1]
      refine Kn h1 ?_ (a2.congr (fun k _ => ?_)) a3
      · have : drT r b r = drT r (b + 1) 0 := by unfold drT; rw [Nat.add_mul]; omega
        rw [← this]; exact a1
      · unfold drP
        by_cases c : k / 16 < r ∧ (k % 16 < b ∨ (k % 16 = b ∧ k / 16 < r))
        · rw [if_pos c, if_pos (by omega)]
        · rw [if_neg c, if_neg (by omega)]
    | succ j ih =>
      intro r h1 hj a1 a2 a3
      refine b_Drawer_fill_66 (ifF (nI_ge (by omega) (by omega)) ⟨a1.1.imp fun _ w => w.1, cD_stamp a1 hn (by omega) (fun h2 b1 b2 => ⟨_, rfl, ?_⟩)⟩)
      have hb2 := a2.fr b2 (by decide) (by decide)
      refine ⟨hb2.1.imp fun _ w => w.1, cB_putStamp hb2 (by omega) hb16 (fun h3 hb3 hf3 => ⟨rfl, ?_⟩)⟩
      rw [nI_1]
      refine ih (r + 1) h3 (by omega) (b1.fr hf3 (by decide) (by decide) (by decide)) (hb3.congr (fun k _ => drP_put hb16 (by omega) k)) ((a3.trans (b2.sub (fun z hz => by omega))).trans (hf3.sub (fun z hz => by omega)))
  have outer : ∀ j b h1, b + j = 16 → drA h1 x (drT n b 0) n → bkA h1 15 (nI n) l q (drP x n b 0) → zFr (fun z => z = 15 ∨ z = 16 ∨ z = 120 ∨ z = 121 ∨ z = 122) h h1 → zW (d + 3) m_Drawer_fill e 56 [.ref 120, .ref 15, zD, .int (nI n), .int (nI b), zD] [] h1 Q := by
    intro j
    induction j with
    | zero =>
      intro b h1 hj a1 a2 a3
      have : b = 16 := by omega
      subst this
      exact b_Drawer_fill_56 (ifT (show nI 16 ≤ nI 16 from Int32.le_refl _) (K h1 a1 a2 a3))
    | succ j ih =>
      intro b h1 hj a1 a2 a3
      exact b_Drawer_fill_56 (ifF (show ¬ nI 16 ≤ nI b from nI_ge (by omega) (by decide)) (inner b (by omega) (fun h2 b1 b2 b3 => ih (b + 1) h2 (by omega) b1 b2 b3) n 0 h1 (by omega) a1 a2 a3))
  have first : ∀ j r h1, r + j = n → drA h1 x (2 * r) r → bkA h1 15 (nI n) l q (fun _ => -4) → zFr (fun z => z = 15 ∨ z = 16 ∨ z = 120 ∨ z = 121 ∨ z = 122) h h1 → zW (d + 3) m_Drawer_fill e 13 [.ref 120, .ref 15, zD, .int (nI n), .int (nI r), zD] [] h1 Q := by
    intro j
    induction j with
    | zero =>
      intro r h1 hj a1 a2 a3
      have : r = n := by omega
      subst this
      refine b_Drawer_fill_13 (ifT (Int32.le_refl _) (outer 16 0 h1 rfl ?_ (a2.congr (fun k _ => ?_)) a3))
      · rw [show drT r 0 0 = 2 * r by unfold drT; omega]; exact a1
      · unfold drP
        rw [if_neg (by omega)]
    | succ j ih =>
      intro r h1 hj a1 a2 a3
      obtain ⟨F1, hF1, g0, -⟩ := a1.1
      refine b_Drawer_fill_13 (ifF (nI_ge (by omega) (by omega)) ⟨F1, hF1, _, g0, ⟨F1, hF1⟩, cD_nextA a1 (fun h2 b1 b2 => ⟨_, rfl, by decide, ?_⟩)⟩)
      obtain ⟨⟨F2, hF2, p0, p1, p2⟩, ⟨u, hu, hu2⟩, w, hw, hw2⟩ := b1
      refine ⟨7, u, hu, zIn_nI (by omega) (by decide), ?_⟩
      rintro h8 rfl
      have b3 : drA (zP h2 121 (zI 0 7 (zU u r (ofI x r)))) x (2 * r + 1) r := ⟨⟨F2, (zP_ne _ _ (by decide)).trans hF2, p0, p1, p2⟩, ⟨_, zP_same _ _ _, fun r' hr' => by rw [zU_ne _ _ (by omega)]; exact hu2 r' hr'⟩, w, (zP_ne _ _ (by decide)).trans hw, hw2⟩
      rw [nI_clamp (by omega), nI_1]
      refine ⟨F2, (zP_ne _ _ (by decide)).trans hF2, _, p1, ⟨F2, (zP_ne _ _ (by decide)).trans hF2⟩, cD_nextA b3 (fun h12 c1 c2 => ⟨_, rfl, by decide, ?_⟩)⟩
      obtain ⟨⟨F3, hF3, s0, s1, s2⟩, -, w3, hw3, hw4⟩ := c1
      refine ⟨7, w3, hw3, zIn_nI (by omega) (by decide), ?_⟩
      rintro h16 rfl
      have fr : zFr (fun z => z = 15 ∨ z = 16 ∨ z = 120 ∨ z = 121 ∨ z = 122) h1 (zP h12 122 (zI 0 7 (zU w3 r (skI x r)))) := (((b2.sub (fun z hz => by omega)).trans (zFr.put (by omega))).trans (c2.sub (fun z hz => by omega))).trans (zFr.put (by omega))
      have frb : zFr (fun z => z = 120 ∨ z = 121 ∨ z = 122) h1 (zP h12 122 (zI 0 7 (zU w3 r (skI x r)))) := (((b2.sub (fun z hz => by omega)).trans (zFr.put (by omega))).trans (c2.sub (fun z hz => by omega))).trans (zFr.put (by omega))
      refine ih (r + 1) _ (by omega) ⟨⟨F3, (zP_ne _ _ (by decide)).trans hF3, s0, s1, s2⟩, ⟨zU u r (ofI x r), (zP_ne _ _ (by decide)).trans (by rw [c2 _ (by decide)]; exact zP_same _ _ _), fun r' hr' => ?_⟩, _, zP_same _ _ _, fun r' hr' => ?_⟩ (a2.fr frb (by decide) (by decide)) (a3.trans fr)
      · by_cases er : r' = r
        · rw [er, zU_same]
        · rw [zU_ne _ _ er]; exact hu2 r' (by omega)
      · by_cases er : r' = r
        · rw [er, zU_same]; rfl
        · rw [zU_ne _ _ er]; exact hw4 r' (by omega)
  exact first n 0 h4 (by omega) c4 hb4 A4
end C
