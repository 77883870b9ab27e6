/-! The Model: a state is emptied -/
section C
variable {d : Nat} {e : Nat × Nat} {h : zH} {Q : zQ}
theorem cM_empties {p : Nat} {f : Nat → Int32} (hp : h.2 p = zI 0 115 f) (K : ∀ f', (∀ k, k < 3 → f' k = f k) → (∀ k, k < 112 → f' (3 + k) = -4) → Q none (zP h p (zI 0 115 f'))) : zW (d + 1) m_Mo_empties e 0 [.ref p, zD] [] h Q := by
  refine b_Mo_empties_0 ?_
  have loop : ∀ j i (f1 : Nat → Int32), i + j = 115 → 3 ≤ i → (∀ k, k < 3 → f1 k = f k) → (∀ k, 3 ≤ k → k < i → f1 k = -4) → zW (d + 1) m_Mo_empties e 2 [.ref p, .int (nI i)] [] (zP h p (zI 0 115 f1)) Q := by
    intro j
    induction j with
    | zero =>
      intro i f1 hj hi a1 a2
      have : i = 115 := by omega
      subst this
      exact b_Mo_empties_2 (ifT (show nI 115 ≤ nI 115 from Int32.le_refl _) (K f1 a1 (fun k hk => a2 (3 + k) (by omega) (by omega))))
    | succ j ih =>
      intro i f1 hj hi a1 a2
      refine b_Mo_empties_2 (ifF (show ¬ nI 115 ≤ nI i from nI_ge (by omega) (by decide)) ⟨115, f1, zP_same _ _ _, zIn_nI (by omega) (by decide), ?_⟩)
      rintro h3 rfl
      rw [zP_zP, nI_1, nI_clamp (by omega)]
      refine ih (i + 1) _ (by omega) (by omega) (fun k hk => by rw [zU_ne _ _ (by omega)]; exact a1 k hk) (fun k h1 h2 => ?_)
      by_cases ek : k = i
      · rw [ek, zU_same]
      · rw [zU_ne _ _ ek]; exact a2 k h1 (by omega)
  have := loop 112 3 f rfl (Nat.le_refl _) (fun _ _ => rfl) (fun k h1 h2 => by omega)
  rw [zP_self hp] at this
  exact this
end C
