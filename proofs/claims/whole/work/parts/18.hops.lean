/-! Least weights: how many lines, how heavy, and what comes next -/
def wOK (w : Nat → Nat → Nat) : Prop := ∀ r s, w r s ≠ 0 → w r s % 8 = 1 ∧ w r s ≤ 202777
def hpI (w : Nat → Nat → Nat) (N a : Nat) (D : Nat → Nat) : Prop := D a = 0 ∧ (∀ r, D r ≤ bI) ∧ (∀ r, N ≤ r → D r = bI) ∧
  (∀ r, r < N → D r < bI → D r % 8 ≤ cnL (fun s => decide (D s < D r)) N ∧ D r ≤ (D r % 8) * 202777) ∧
  (∀ r, r < N → r ≠ a → D r < bI → ∃ s, s < N ∧ w r s ≠ 0 ∧ D s < bI ∧ w r s + D s ≤ D r)
section P
variable {w : Nat → Nat → Nat} {D : Nat → Nat} {N a r s : Nat}
theorem cnL_mono {p q : Nat → Bool} : ∀ n, (∀ j, j < n → p j = true → q j = true) → cnL p n ≤ cnL q n
  | 0, _ => Nat.le_refl _
  | n + 1, h => by
    have h1 := cnL_mono n (fun j hj => h j (by omega))
    show cnL p n + (if p n = true then 1 else 0) ≤ cnL q n + (if q n = true then 1 else 0)
    by_cases c : p n = true
    · rw [if_pos c, if_pos (h n (by omega) c)]; omega
    · rw [if_neg c]; omega
theorem cnL_miss {p : Nat → Bool} {r : Nat} (hr : r < N) (h : p r = false) : cnL p N < N := by
  have := cnL_put h N
  rw [if_pos hr] at this
  have := cnL_le (zU p r true) N
  omega
theorem hp_6 (hN : N ≤ 7) (h : hpI w N a D) (hr : r < N) (hD : D r < bI) : D r % 8 ≤ 6 := by
  have h1 := (h.2.2.2.1 r hr hD).1
  have h2 := cnL_miss (p := fun s => decide (D s < D r)) hr (by simp)
  omega
theorem hp_bd (hN : N ≤ 7) (h : hpI w N a D) (hr : r < N) (hD : D r < bI) : D r ≤ 1216662 := by
  have h1 := (h.2.2.2.1 r hr hD).2
  have h2 := hp_6 hN h hr hD
  have : D r % 8 * 202777 ≤ 6 * 202777 := Nat.mul_le_mul_right _ h2
  omega
theorem hp_0 (ha : a < N) : hpI w N a (zU (fun _ => bI) a 0) := by
  have e : ∀ r, zU (fun _ => bI) a 0 r < bI → r = a := fun r h => by
    by_cases c : r = a
    · exact c
    · rw [zU_ne _ _ c] at h; exact absurd h (Nat.lt_irrefl _)
  refine ⟨zU_same _ _ _, fun r => ?_, fun r hr => zU_ne _ _ (by omega), fun r hr h => ?_, fun r _ hr h => absurd (e r h) hr⟩
  · unfold zU; split
    · exact Nat.zero_le _
    · exact Nat.le_refl _
  · rw [e r h, zU_same]
    exact ⟨Nat.zero_le _, Nat.zero_le _⟩
theorem hp_rlx (hw : wOK w) (hN : N ≤ 7) (hr : r < N) (hs : s < N) (h : hpI w N a D) : hpI w N a (rlx w D r s) := by
  by_cases c : imp w D r s = true
  · rw [rlx_t c]
    obtain ⟨c1, c2⟩ := imp_t c
    obtain ⟨w1, w2⟩ := hw r s c1
    have hrD := h.2.1 r
    have hsD : D s < bI := by omega
    have h6 := hp_6 hN h hs hsD
    have hbd := hp_bd hN h hs hsD
    obtain ⟨h1, h2, h3, h4, h5⟩ := h
    have hra : r ≠ a := fun e => by rw [e, h1] at c2; omega
    have hmod : (w r s + D s) % 8 = D s % 8 + 1 := by omega
    have hle : ∀ x, zU D r (w r s + D s) x ≤ D x := fun x => by
      by_cases e : x = r
      · rw [e, zU_same]; omega
      · rw [zU_ne _ _ e]; exact Nat.le_refl _
    refine ⟨?_, fun x => Nat.le_trans (hle x) (h2 x), fun x hx => ?_, fun x hx hD => ?_, fun x hx hxa hD => ?_⟩
    · rw [zU_ne _ _ (fun e => hra e.symm)]; exact h1
    · rw [zU_ne _ _ (by omega)]; exact h3 x hx
    · by_cases e : x = r
      · subst e
        rw [zU_same, hmod]
        obtain ⟨a1, a2⟩ := h4 s hs hsD
        refine ⟨?_, ?_⟩
        · have hne : s ≠ x := fun e => by rw [e] at c2; omega
          have m := cnL_mono (p := zU (fun y => decide (D y < D s)) s true) (q := fun y => decide (zU D x (w x s + D s) y < w x s + D s)) N (fun j hj hp => by
            by_cases ej : j = s
            · subst ej
              rw [zU_ne _ _ hne]
              simp; omega
            · rw [zU_ne _ _ ej] at hp
              have hp' : D j < D s := by simpa using hp
              have := hle j
              have : zU D x (w x s + D s) j < w x s + D s := by omega
              simpa using this)
          rw [cnL_put (by simp), if_pos hs] at m
          omega
        · rw [Nat.add_mul]; omega
      · rw [zU_ne _ _ e] at hD ⊢
        obtain ⟨a1, a2⟩ := h4 x hx hD
        refine ⟨Nat.le_trans a1 (cnL_mono N (fun j hj hp => ?_)), a2⟩
        have hp' : D j < D x := by simpa using hp
        have := hle j
        have : zU D r (w r s + D s) j < D x := by omega
        simpa using this
    · by_cases e : x = r
      · subst e
        have hne : s ≠ x := fun e => by rw [e] at c2; omega
        rw [zU_same]
        exact ⟨s, hs, c1, by rw [zU_ne _ _ hne]; exact hsD, by rw [zU_ne _ _ hne]; exact Nat.le_refl _⟩
      · rw [zU_ne _ _ e] at hD ⊢
        obtain ⟨y, b1, b2, b3, b4⟩ := h5 x hx hxa hD
        have := hle y
        exact ⟨y, b1, b2, by omega, by omega⟩
  · rw [rlx_f (by simpa using c)]; exact h
theorem hp_bf (hw : wOK w) (hN : N ≤ 7) (ha : a < N) (k : Nat) : hpI w N a (bfD w N a k) := bfD_keep (X := hpI w N a) (fun _ _ _ => hp_rlx hw hN) (hp_0 ha) k
/-- at the end: some next clock fits exactly, and it is one line nearer -/
theorem bf_next (hw : wOK w) (hN : N ≤ 7) (ha : a < N) (hr : r < N) (hra : r ≠ a) (hD : bfD w N a 6 r < bI) : ∃ s, s < N ∧ w r s ≠ 0 ∧ bfD w N a 6 s < bI ∧ w r s + bfD w N a 6 s = bfD w N a 6 r := by
  obtain ⟨s, h1, h2, h3, h4⟩ := (hp_bf hw hN ha 6).2.2.2.2 r hr hra hD
  have := imp_f (bf_stable (w := w) hN ha hr h1) h2
  exact ⟨s, h1, h2, h3, by omega⟩
theorem bf_hop (hw : wOK w) (hN : N ≤ 7) (ha : a < N) (hs : s < N) (h1 : w r s ≠ 0) (h2 : bfD w N a 6 s < bI) (h3 : w r s + bfD w N a 6 s = bfD w N a 6 r) : bfD w N a 6 r % 8 = bfD w N a 6 s % 8 + 1 := by
  have := hp_6 hN (hp_bf hw hN ha 6) hs h2
  have := (hw r s h1).1
  omega
theorem bf_hop0 (hw : wOK w) (hN : N ≤ 7) (ha : a < N) (hr : r < N) (hD : bfD w N a 6 r < bI) (h : bfD w N a 6 r % 8 = 0) : r = a := by
  by_cases e : r = a
  · exact e
  · obtain ⟨s, h1, h2, h3, h4⟩ := bf_next hw hN ha hr e hD
    have := bf_hop hw hN ha h1 h2 h3 h4
    omega
/-- two weights are compared by cost first, then by how many lines -/
theorem w8_lt {c x c' x' : Nat} (hx : x < 8) (hx' : x' < 8) : 8 * c + x < 8 * c' + x' ↔ c < c' ∨ (c = c' ∧ x < x') := by omega
theorem w8_eq {c x c' x' : Nat} (hx : x < 8) (hx' : x' < 8) : 8 * c + x = 8 * c' + x' ↔ c = c' ∧ x = x' := by omega
end P
