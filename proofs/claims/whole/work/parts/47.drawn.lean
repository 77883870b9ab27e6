/-! Stamps that are drawn are stamps -/
theorem m32_nI (x : Int32) (k m : Nat) (hm : 0 < m) (hm2 : m < 2 ^ 31) : ∃ j, j < m ∧ m32 (sdK x k) (nI m) = nI j := by
  obtain ⟨j, hj, e⟩ := sdV_nI (sdI k x)
  refine ⟨j % m, Nat.mod_lt _ hm, ?_⟩
  unfold m32 sdK
  rw [e]
  exact nI_mod (by omega) hm hm2
theorem drS_ok (x : Int32) {n b r : Nat} (hb : b < 16) : drS x n b r = -4 ∨ (0 ≤ drS x n b r ∧ drS x n b r ≤ 9999) := by
  unfold drS
  split
  · exact Or.inl rfl
  · right
    obtain ⟨j1, h1, e1⟩ := m32_nI x (2 * r + 1) 500 (by decide) (by decide)
    obtain ⟨j2, h2, e2⟩ := m32_nI x (2 * r + 2) 5 (by decide) (by decide)
    obtain ⟨j3, h3, e3⟩ := m32_nI x (drT n b r + 2) 3 (by decide) (by decide)
    have e1' : ofI x r = nI j1 := e1
    have e2' : skI x r = nI j2 := e2
    have e3' : m32 (sdK x (drT n b r + 2)) 3 = nI j3 := e3
    have hp : j2 * b ≤ 4 * 15 := Nat.mul_le_mul (by omega) (by omega)
    have e4 : (if m32 (sdK x (drT n b r + 3)) 9 = 0 then (97 : Int32) else 0) = nI (if m32 (sdK x (drT n b r + 3)) 9 = 0 then 97 else 0) := by split <;> rfl
    have h4 : (if m32 (sdK x (drT n b r + 3)) 9 = 0 then 97 else 0) ≤ 97 := by split <;> decide
    rw [e1', e2', e3', e4, show (40 : Int32) = nI 40 from rfl, nI_1, pk_mul, pk_mul, nI_add, nI_add, nI_add, nI_add]
    generalize (if m32 (sdK x (drT n b r + 3)) 9 = 0 then 97 else 0) = z at h4
    exact ⟨nI_pos' (by omega), nI_le (b := 9999) (by omega) (by decide)⟩
theorem drP_ok (x : Int32) (n b r : Nat) : StK (drP x n b r) := fun k hk => by
  unfold drP
  split
  · exact drS_ok x (Nat.mod_lt _ (by decide))
  · exact Or.inl rfl
