/-! Drawing by a seed: the class -/
def m32 (a k : Int32) : Int32 := a - a / k * k
def ofI (x : Int32) (r : Nat) : Int32 := m32 (sdK x (2 * r + 1)) 500
def skI (x : Int32) (r : Nat) : Int32 := m32 (sdK x (2 * r + 2)) 5
def drT (n b r : Nat) : Nat := 2 * n + 3 * (b * n + r)
def drS (x : Int32) (n b r : Nat) : Int32 := if m32 (sdK x (drT n b r + 1)) 4 = 0 then -4 else ofI x r + 40 * (nI b + 1) + skI x r * nI b + m32 (sdK x (drT n b r + 2)) 3 + (if m32 (sdK x (drT n b r + 3)) 9 = 0 then 97 else 0)
/-- the stamps that are drawn before (b, r) -/
def drP (x : Int32) (n b r : Nat) : Nat → Int32 := fun k => if k / 16 < n ∧ (k % 16 < b ∨ (k % 16 = b ∧ k / 16 < r)) then drS x n (k % 16) (k / 16) else -4
def drA (h : zH) (x : Int32) (k m : Nat) : Prop := (∃ F, h.2 120 = zO 2 F ∧ F 0 = .ref 121 ∧ F 1 = .ref 122 ∧ F 2 = .int (sdI k x)) ∧ (∃ f, h.2 121 = zI 0 7 f ∧ ∀ r, r < m → f r = ofI x r) ∧ ∃ g, h.2 122 = zI 0 7 g ∧ ∀ r, r < m → g r = skI x r
theorem drA.fr {A : Nat → Prop} {h h' : zH} {x : Int32} {k m : Nat} (c : drA h x k m) (f : zFr A h h') (h1 : ¬ A 120) (h2 : ¬ A 121) (h3 : ¬ A 122) : drA h' x k m := by
  obtain ⟨b1, b2, b3⟩ := c
  exact ⟨b1.imp fun _ w => ⟨by rw [f _ h1]; exact w.1, w.2⟩, b2.imp fun _ w => ⟨by rw [f _ h2]; exact w.1, w.2⟩, b3.imp fun _ w => ⟨by rw [f _ h3]; exact w.1, w.2⟩⟩
section C
variable {d : Nat} {e : Nat × Nat} {h : zH} {Q : zQ} {x : Int32} {k m n b r : Nat}
theorem cD_nextA (hc : drA h x k m) (K : ∀ h', drA h' x (k + 1) m → zFr (fun z => z = 120) h h' → Q (some (.int (sdK x (k + 1)))) h') : zW (d + 1) m_Drawer_next e 0 [.ref 120] [] h Q := by
  obtain ⟨⟨F, hF, f0, f1, f2⟩, b2, b3⟩ := hc
  refine cD_next hF f2 (K _ ⟨⟨_, zP_same _ _ _, f0, f1, rfl⟩, b2.imp fun _ w => ⟨(zP_ne _ _ (by decide)).trans w.1, w.2⟩, b3.imp fun _ w => ⟨(zP_ne _ _ (by decide)).trans w.1, w.2⟩⟩ (zFr.put rfl))
theorem cD_stamp (hc : drA h x (drT n b r) n) (hn : n ≤ 7) (hr : r < n) (K : ∀ h', drA h' x (drT n b r + 3) n → zFr (fun z => z = 120) h h' → Q (some (.int (drS x n b r))) h') : zW (d + 2) m_Drawer_stampBySeed e 0 [.ref 120, .int (nI b), .int (nI r), zD, zD, zD, zD] [] h Q := by
  refine b_Drawer_stampBySeed_0 ⟨hc.1.imp fun _ w => w.1, cD_nextA hc (fun h1 c1 f1 => ⟨_, rfl, c1.1.imp fun _ w => w.1, cD_nextA c1 (fun h2 c2 f2 => ⟨_, rfl, c2.1.imp fun _ w => w.1, cD_nextA c2 (fun h3 c3 f3 => ⟨_, rfl, by decide, ?_⟩)⟩)⟩)⟩
  have k1 := K h3 c3 ((f1.trans f2).trans f3)
  unfold drS at k1
  have tail : ∀ s0 : Int32, Q (some (.int (ofI x r + 40 * (nI b + 1) + skI x r * nI b + m32 (sdK x (drT n b r + 2)) 3 + s0))) h3 → zW (d + 2) m_Drawer_stampBySeed e 40 [.ref 120, .int (nI b), .int (nI r), zD, .int (sdK x (drT n b r + 1 + 1)), zD, zD] [.int s0] h3 Q := fun s0 k2 => by
    obtain ⟨⟨F, hF, g0, g1, g2⟩, ⟨f, hf, hf2⟩, g, hg, hg2⟩ := c3
    refine b_Drawer_stampBySeed_40 ⟨F, hF, _, g0, 7, f, hf, zIn_nI (by omega) (by decide), F, hF, _, g1, 7, g, hg, zIn_nI (by omega) (by decide), by decide, ?_⟩
    rw [nI_clamp (by omega), hf2 r hr, hg2 r hr]
    exact k2
  refine ifB (fun c => ?_) (fun c => ⟨by decide, ifB (fun c2 => tail _ ?_) (fun c2 => tail _ ?_)⟩)
  · rw [if_pos (show m32 _ 4 = 0 from c)] at k1
    exact k1
  · rw [if_neg (show ¬ m32 _ 4 = 0 from c), if_pos (show m32 _ 9 = 0 from c2)] at k1
    exact k1
  · rw [if_neg (show ¬ m32 _ 4 = 0 from c), if_neg (show ¬ m32 _ 9 = 0 from c2)] at k1
    exact k1
end C
