/-! The Model: the costs of all lines -/
def mGf (G G' : Nat → Value) : Prop := ∀ k, k < 14 ∨ 24 < k ∨ k = 22 ∨ k = 23 → G' k = G k
theorem mGf.R {G G' : Nat → Value} (g : mGf G G') (hR : mR G) : mR G' := mR_of hR (fun k hk => g k (by omega))
section C
variable {d : Nat} {e : Nat × Nat} {h : zH} {Q : zQ} {l q : Int32} {S : Nat → Int32} {G : Nat → Value} {r s N : Nat}
theorem ix7b (r s : Nat) : 7 * nI r + nI s = nI (7 * r + s) := by
  rw [show (7 : Int32) = nI 7 from rfl, pk_mul, nI_add]
def mcI (h : zH) (G : Nat → Value) (N : Nat) (l q : Int32) (S : Nat → Int32) (h1 : zH) (r s : Nat) : Prop := (∃ G1, h1.2 139 = zO 10 G1 ∧ mGf G G1) ∧ (∃ p, h1.2 145 = zI 1 16 p) ∧ (∃ o, h1.2 146 = zI 0 16 o) ∧ (∃ f, h1.2 147 = zI 0 49 f ∧ ∀ r' s', r' < N → s' < N → (r' < r ∨ (r' = r ∧ s' < s)) → f (7 * r' + s') = nI (csN S l q r' s')) ∧ zFr (fun z => z = 139 ∨ z = 145 ∨ z = 146 ∨ z = 147) h h1
theorem cM_findsCosts (hG : h.2 139 = zO 10 G) (hR : mR G) (hm : msA h (nI N) l q S) (hp : ∃ p, h.2 145 = zI 1 16 p) (ho : ∃ o, h.2 146 = zI 0 16 o) (hc : ∃ f, h.2 147 = zI 0 49 f) (hS : StK S) (hq : 2 ≤ q) (hli : 0 ≤ l) (hli2 : l ≤ 99) (hN : N ≤ 7)
    (K : ∀ h', mcI h G N l q S h' N 0 → Q none h') : zW (d + 5) m_Mo_findsCosts e 0 [.ref 139, zD, zD] [] h Q := by
  refine b_Mo_findsCosts_0 ?_
  have put : ∀ h1 r s f v, mcI h G N l q S h1 r s → r < N → s < N → h1.2 147 = zI 0 49 f → v = nI (csN S l q r s) → mcI h G N l q S (zP h1 147 (zI 0 49 (zU f (7 * r + s) v))) r (s + 1) := by
    intro h1 r s f1 v hI hr hs hf1 hv
    obtain ⟨⟨G1, hG1, g1⟩, ⟨p, hp⟩, ⟨o, ho⟩, ⟨f', hf', hf2⟩, hfr⟩ := hI
    have : f' = f1 := by rw [hf1] at hf'; exact (zI_inj hf').symm
    subst this
    have h147 : zFr (fun z => z = 139 ∨ z = 145 ∨ z = 146 ∨ z = 147) h1 (zP h1 147 (zI 0 49 (zU f' (7 * r + s) v))) := zFr.put (Or.inr (Or.inr (Or.inr rfl)))
    refine ⟨⟨G1, (zP_ne _ _ (by decide)).trans hG1, g1⟩, ⟨p, (zP_ne _ _ (by decide)).trans hp⟩, ⟨o, (zP_ne _ _ (by decide)).trans ho⟩, ⟨_, zP_same _ _ _, fun r' s' hr' hs' hor => ?_⟩, hfr.trans h147⟩
    by_cases ez : 7 * r' + s' = 7 * r + s
    · have : r' = r ∧ s' = s := by omega
      rw [ez, zU_same, this.1, this.2]; exact hv
    · rw [zU_ne _ _ ez]
      exact hf2 r' s' hr' hs' (by omega)
  have inner : ∀ r, r < N → (∀ h2, mcI h G N l q S h2 (r + 1) 0 → zW (d + 5) m_Mo_findsCosts e 2 [.ref 139, .int (nI (r + 1)), zD] [] h2 Q) → ∀ j s h1, s + j = N → mcI h G N l q S h1 r s → zW (d + 5) m_Mo_findsCosts e 14 [.ref 139, .int (nI r), .int (nI s)] [] h1 Q := by
    intro r hr Kn j
    induction j with
    | zero =>
      intro s h1 hj hI
      have : s = N := by omega
      subst this
      obtain ⟨⟨G1, hG1, g1⟩, a2, a3, ⟨f', hf', hf2⟩, hfr⟩ := hI
      obtain ⟨st, hst, st0, -⟩ := hm.fr hfr (by decide)
      refine b_Mo_findsCosts_14 ⟨G1, hG1, _, (g1.R hR).1, 115, st, hst, zi0, ?_⟩
      rw [show (0 : Int32).toNatClampNeg = 0 from rfl, st0]
      refine ifT (Int32.le_refl _) ?_
      rw [nI_1]
      exact Kn h1 ⟨⟨G1, hG1, g1⟩, a2, a3, ⟨f', hf', fun r' s' hr' hs' hor => hf2 r' s' hr' hs' (by omega)⟩, hfr⟩
    | succ j ih =>
      intro s h1 hj hI
      have hs : s < N := by omega
      obtain ⟨⟨G1, hG1, g1⟩, a2, a3, ⟨f', hf', hf2⟩, hfr⟩ := id hI
      obtain ⟨st, hst, st0, -⟩ := hm.fr hfr (by decide)
      have hR1 := g1.R hR
      refine b_Mo_findsCosts_14 ⟨G1, hG1, _, hR1.1, 115, st, hst, zi0, ?_⟩
      rw [show (0 : Int32).toNatClampNeg = 0 from rfl, st0, ix7b]
      refine ifF (nI_ge hs (by omega)) ⟨G1, hG1, _, hR1.2.2.2.2.2.2.2.1, 49, f', hf', zIn_nI (by omega) (by decide), ?_⟩
      rintro h9 rfl
      rw [nI_1, nI_clamp (by omega)]
      refine ifB (fun c => ?_) (fun c => ?_)
      · have ers := (nI_eq (by omega) (by omega)).mp c
        exact ih (s + 1) _ (by omega) (put h1 r s f' 0 hI hr hs hf' (by unfold csN kdB; simp [ers]; rfl))
      · have hrs : r ≠ s := fun q => c (by rw [q])
        have h147 : zFr (fun z => z = 147) h1 (zP h1 147 (zI 0 49 (zU f' (7 * r + s) 0))) := zFr.put rfl
        have hm2 : msA (zP h1 147 (zI 0 49 (zU f' (7 * r + s) 0))) (nI N) l q S := (hm.fr hfr (by decide)).fr h147 (by decide)
        refine ⟨⟨G1, (zP_ne _ _ (by decide)).trans hG1⟩, cM_fits ((zP_ne _ _ (by decide)).trans hG1) hR1 hm2 (a2.imp fun _ w => (zP_ne _ _ (by decide)).trans w) (a3.imp fun _ w => (zP_ne _ _ (by decide)).trans w) hS hq (by omega) (by omega) (fun h3 G3 hf3 hG3 g3 hl3 => ?_)⟩
        have gg : mGf G G3 := fun k hk => (g3 k hk).trans (g1 k hk)
        have hR3 := gg.R hR
        have f3 : h3.2 147 = zI 0 49 (zU f' (7 * r + s) 0) := by rw [hf3 _ (by decide)]; exact zP_same _ _ _
        have hI3 : mcI h G N l q S h3 r s := by
          obtain ⟨-, -, -, -, ⟨p3, hp3, -⟩, o3, ho3, -⟩ := id hl3
          refine ⟨⟨G3, hG3, gg⟩, ⟨p3, hp3⟩, ⟨o3, ho3⟩, ⟨_, f3, fun r' s' hr' hs' hor => ?_⟩, ?_⟩
          · rw [zU_ne _ _ (by omega)]; exact hf2 r' s' hr' hs' hor
          · exact (hfr.trans (h147.sub (fun z hz => Or.inr (Or.inr (Or.inr hz))))).trans (hf3.sub (fun z hz => by omega))
        refine ⟨rfl, G3, hG3, _, hR3.2.2.2.2.2.2.2.1, G3, hG3, _, hl3.1, ifB (fun c2 => ⟨⟨G3, hG3⟩, cM_costOfLine hG3 hl3 hS hq hli hli2 (by omega) (by omega) hrs ⟨_, rfl, 49, _, f3, ?_⟩⟩) (fun c2 => ⟨49, _, f3, ?_⟩)⟩
        · have hk : kdB S l q 2 r s = true := by unfold kdB; simp [hrs, c2]
          refine ⟨zIn_nI (by omega) (by decide), ?_⟩
          rintro h21 rfl
          rw [if_pos hk]
          exact ih (s + 1) _ (by omega) (put h3 r s _ _ hI3 hr hs f3 rfl)
        · refine ⟨zIn_nI (by omega) (by decide), ?_⟩
          rintro h25 rfl
          exact ih (s + 1) _ (by omega) (put h3 r s _ _ hI3 hr hs f3 (by unfold csN kdB; simp [c2]; rfl))
  have outer : ∀ j r h1, r + j = N → mcI h G N l q S h1 r 0 → zW (d + 5) m_Mo_findsCosts e 2 [.ref 139, .int (nI r), zD] [] h1 Q := by
    intro j
    induction j with
    | zero =>
      intro r h1 hj hI
      have : r = N := by omega
      subst this
      obtain ⟨⟨G1, hG1, g1⟩, a2, a3, -, hfr⟩ := id hI
      obtain ⟨st, hst, st0, -⟩ := hm.fr hfr (by decide)
      refine b_Mo_findsCosts_2 ⟨G1, hG1, _, (g1.R hR).1, 115, st, hst, zi0, ?_⟩
      rw [show (0 : Int32).toNatClampNeg = 0 from rfl, st0]
      exact ifT (Int32.le_refl _) (K h1 hI)
    | succ j ih =>
      intro r h1 hj hI
      obtain ⟨⟨G1, hG1, g1⟩, a2, a3, -, hfr⟩ := id hI
      obtain ⟨st, hst, st0, -⟩ := hm.fr hfr (by decide)
      refine b_Mo_findsCosts_2 ⟨G1, hG1, _, (g1.R hR).1, 115, st, hst, zi0, ?_⟩
      rw [show (0 : Int32).toNatClampNeg = 0 from rfl, st0]
      exact ifF (nI_ge (by omega) (by omega)) (inner r (by omega) (fun h2 hI2 => ih (r + 1) h2 (by omega) hI2) N 0 h1 (by omega) hI)
  obtain ⟨f, hf⟩ := hc
  exact outer N 0 h (by omega) ⟨⟨G, hG, fun _ _ => rfl⟩, hp, ho, ⟨f, hf, fun r' s' _ _ hor => by omega⟩, zFr.rf⟩
end C
