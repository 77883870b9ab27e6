/-! Drawing by a seed: one step -/
/-- the k-th number that a seed tells -/
def sdK (x : Int32) (k : Nat) : Int32 := sdV (sdI k x)
theorem nI_mod {j k : Nat} (hj : j < 2 ^ 31) (hk : 0 < k) (hk2 : k < 2 ^ 31) : nI j - nI j / nI k * nI k = nI (j % k) := by
  apply Int32.toInt_inj.mp
  have hd : j / k ≤ j := Nat.div_le_self _ _
  have hm : j / k * k ≤ j := Nat.div_mul_le_self _ _
  have e1 : (nI j / nI k).toInt = ((j / k : Nat) : Int) := by
    rw [Int32.toInt_div, nI_toInt hj, nI_toInt hk2, Int.tdiv_eq_ediv_of_nonneg (by omega), ← Int.natCast_ediv]
    generalize j / k = t at hd
    exact Int.bmod_eq_of_le_mul_two (by omega) (by omega)
  have e2 : (nI j / nI k * nI k).toInt = ((j / k * k : Nat) : Int) := by
    rw [Int32.toInt_mul, e1, nI_toInt hk2, ← Int.natCast_mul]
    generalize j / k * k = t at hm
    exact Int.bmod_eq_of_le_mul_two (by omega) (by omega)
  have hmod := Nat.mod_lt j hk
  have e3 := Nat.div_add_mod j k
  rw [Nat.mul_comm] at e3
  rw [Int32.toInt_sub, e2, nI_toInt hj, nI_toInt (by omega)]
  rw [show (j : Int) - ((j / k * k : Nat) : Int) = ((j % k : Nat) : Int) by omega]
  exact Int.bmod_eq_of_le_mul_two (by omega) (by omega)
section C
variable {d : Nat} {e : Nat × Nat} {h : zH} {Q : zQ} {F : Nat → Value} {x : Int32} {k : Nat}
theorem cD_next (hF : h.2 120 = zO 2 F) (f2 : F 2 = .int (sdI k x)) (K : Q (some (.int (sdK x (k + 1)))) (zP h 120 (zO 2 (zU F 2 (.int (sdI (k + 1) x)))))) : zW (d + 1) m_Drawer_next e 0 [.ref 120] [] h Q := by
  refine b_Drawer_next_0 ⟨F, hF, _, f2, F, hF, ?_⟩
  rintro h4 rfl
  exact ⟨_, zP_same _ _ _, _, rfl, K⟩
theorem cM_gets {G : Nat → Value} (hG : h.2 139 = zO 10 G) (g : G 33 = .int (sdI k x)) (K : Q (some (.int (sdK x (k + 1)))) (zP h 139 (zO 10 (zU G 33 (.int (sdI (k + 1) x)))))) : zW (d + 1) m_Mo_gets e 0 [.ref 139] [] h Q := by
  refine b_Mo_gets_0 ⟨G, hG, _, g, G, hG, ?_⟩
  rintro h4 rfl
  refine ⟨_, zP_same _ _ _, _, rfl, ?_⟩
  rw [sdV_s]
  exact K
end C
