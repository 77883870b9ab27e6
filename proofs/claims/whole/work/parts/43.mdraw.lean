/-! Drawing by a seed: the Model's parts -/
def mdA (h : zH) (G : Nat → Value) (x : Int32) (k m : Nat) : Prop := (∃ G1, h.2 139 = zO 10 G1 ∧ (∀ j, j ≠ 33 → G1 j = G j) ∧ G1 33 = .int (sdI k x)) ∧ (∃ f, h.2 151 = zI 0 7 f ∧ ∀ r, r < m → f r = ofI x r) ∧ ∃ g, h.2 152 = zI 0 7 g ∧ ∀ r, r < m → g r = skI x r
theorem mdA.fr {A : Nat → Prop} {h h' : zH} {G : Nat → Value} {x : Int32} {k m : Nat} (c : mdA h G x k m) (f : zFr A h h') (h1 : ¬ A 139) (h2 : ¬ A 151) (h3 : ¬ A 152) : mdA h' G x k m := by
  obtain ⟨b1, b2, b3⟩ := c
  exact ⟨b1.imp fun _ w => ⟨by rw [f _ h1]; exact w.1, w.2⟩, b2.imp fun _ w => ⟨by rw [f _ h2]; exact w.1, w.2⟩, b3.imp fun _ w => ⟨by rw [f _ h3]; exact w.1, w.2⟩⟩
theorem msA.congr {h : zH} {n l q : Int32} {S S' : Nat → Int32} (hm : msA h n l q S) (hS : ∀ k, k < 112 → S k = S' k) : msA h n l q S' := by
  obtain ⟨f, f0, f1, f2, f3, f4⟩ := hm
  exact ⟨f, f0, f1, f2, f3, fun k hk => (f4 k hk).trans (hS k hk)⟩
section C
variable {d : Nat} {e : Nat × Nat} {h : zH} {Q : zQ} {G : Nat → Value} {x n l q : Int32} {S : Nat → Int32} {k m : Nat}
theorem cM_getsA (hc : mdA h G x k m) (K : ∀ h', mdA h' G x (k + 1) m → zFr (fun z => z = 139) h h' → Q (some (.int (sdK x (k + 1)))) h') : zW (d + 1) m_Mo_gets e 0 [.ref 139] [] h Q := by
  obtain ⟨⟨G1, hG1, g1, g33⟩, b2, b3⟩ := hc
  refine cM_gets hG1 g33 (K _ ⟨⟨_, zP_same _ _ _, fun j hj => by rw [zU_ne _ _ hj]; exact g1 j hj, rfl⟩, b2.imp fun _ w => ⟨(zP_ne _ _ (by decide)).trans w.1, w.2⟩, b3.imp fun _ w => ⟨(zP_ne _ _ (by decide)).trans w.1, w.2⟩⟩ (zFr.put rfl))
/-- a stamp is put into the Model -/
theorem msA.put {r b : Nat} {v : Int32} (hm : msA h n l q S) (hr : r < 7) (hb : b < 16) : ∃ f, h.2 140 = zI 0 115 f ∧ msA (zP h 140 (zI 0 115 (zU f (3 + (16 * r + b)) v))) n l q (zU S (16 * r + b) v) := by
  obtain ⟨f, f0, f1, f2, f3, f4⟩ := hm
  refine ⟨f, f0, _, zP_same _ _ _, by rw [zU_ne _ _ (by omega)]; exact f1, by rw [zU_ne _ _ (by omega)]; exact f2, by rw [zU_ne _ _ (by omega)]; exact f3, fun k hk => ?_⟩
  by_cases ek : k = 16 * r + b
  · rw [ek, zU_same, zU_same]
  · rw [zU_ne _ _ (by omega), zU_ne _ _ ek]; exact f4 k hk
end C
