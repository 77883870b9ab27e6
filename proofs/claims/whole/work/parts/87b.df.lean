theorem zdf_0 : zTys' 0 = some [0, 0, 0, 2] ∧ ∀ j, j < 4 → (parseFieldDescriptor (TX0 j).2.2.1).map defaultValue = some (zDf [0, 0, 0, 2] j) := ⟨by decide +kernel, by decide +kernel⟩
theorem zdf_1 : zTys' 1 = some [0, 0, 2, 2] ∧ ∀ j, j < 4 → (parseFieldDescriptor (TX1 j).2.2.1).map defaultValue = some (zDf [0, 0, 2, 2] j) := ⟨by decide +kernel, by decide +kernel⟩
theorem zdf_2 : zTys' 2 = some [2, 2, 0] ∧ ∀ j, j < 3 → (parseFieldDescriptor (TX2 j).2.2.1).map defaultValue = some (zDf [2, 2, 0] j) := ⟨by decide +kernel, by decide +kernel⟩
theorem zdf_3 : zTys' 3 = some [0, 0, 0, 1, 1, 1, 1, 1, 0, 1, 0, 2, 0] ∧ ∀ j, j < 13 → (parseFieldDescriptor (TX3 j).2.2.1).map defaultValue = some (zDf [0, 0, 0, 1, 1, 1, 1, 1, 0, 1, 0, 2, 0] j) := ⟨by decide +kernel, by decide +kernel⟩
theorem zdf_4 : zTys' 4 = some [0, 0, 2] ∧ ∀ j, j < 3 → (parseFieldDescriptor (TX4 j).2.2.1).map defaultValue = some (zDf [0, 0, 2] j) := ⟨by decide +kernel, by decide +kernel⟩
theorem zdf_5 : zTys' 5 = some [0, 2] ∧ ∀ j, j < 2 → (parseFieldDescriptor (TX5 j).2.2.1).map defaultValue = some (zDf [0, 2] j) := ⟨by decide +kernel, by decide +kernel⟩
theorem zdf_6 : zTys' 6 = some [2, 2, 0, 0, 0, 0, 0, 0, 0, 0] ∧ ∀ j, j < 10 → (parseFieldDescriptor (TX6 j).2.2.1).map defaultValue = some (zDf [2, 2, 0, 0, 0, 0, 0, 0, 0, 0] j) := ⟨by decide +kernel, by decide +kernel⟩
theorem zdf_7 : zTys' 7 = some [1, 0] ∧ ∀ j, j < 2 → (parseFieldDescriptor (TX7 j).2.2.1).map defaultValue = some (zDf [1, 0] j) := ⟨by decide +kernel, by decide +kernel⟩
theorem zdf_8 : zTys' 8 = some [2, 2, 2, 0] ∧ ∀ j, j < 4 → (parseFieldDescriptor (TX8 j).2.2.1).map defaultValue = some (zDf [2, 2, 2, 0] j) := ⟨by decide +kernel, by decide +kernel⟩
theorem zdf_9 : zTys' 9 = some [2, 2, 2, 2, 2, 2, 2, 2, 2, 2, 0, 0] ∧ ∀ j, j < 12 → (parseFieldDescriptor (TX9 j).2.2.1).map defaultValue = some (zDf [2, 2, 2, 2, 2, 2, 2, 2, 2, 2, 0, 0] j) := ⟨by decide +kernel, by decide +kernel⟩
theorem zdf_10 : zTys' 10 = some [2, 2, 2, 2, 2, 0, 0, 0, 0, 0, 0, 0, 0, 0, 0, 1, 1, 1, 1, 1, 0, 1, 2, 2, 0, 2, 2, 2, 2, 0, 0, 0, 1, 0, 2, 2, 2, 2, 2] ∧ ∀ j, j < 39 → (parseFieldDescriptor (TX10 j).2.2.1).map defaultValue = some (zDf [2, 2, 2, 2, 2, 0, 0, 0, 0, 0, 0, 0, 0, 0, 0, 1, 1, 1, 1, 1, 0, 1, 2, 2, 0, 2, 2, 2, 2, 0, 0, 0, 1, 0, 2, 2, 2, 2, 2] j) := ⟨by decide +kernel, by decide +kernel⟩
theorem zDf_ok : ∀ (ci : Nat) (q : vw_C) (tg : List Nat), vwCl[ci]? = some q → zTys' ci = some tg → tg.length = q.2.2 ∧ ∀ j, j < q.2.2 → (parseFieldDescriptor (q.2.1 j).2.2.1).map defaultValue = some (zDf tg j)
  | 0, q, tg, h, ht => by cases h; have e := Option.some.inj (zdf_0.1.symm.trans ht); subst e; exact ⟨rfl, zdf_0.2⟩
  | 1, q, tg, h, ht => by cases h; have e := Option.some.inj (zdf_1.1.symm.trans ht); subst e; exact ⟨rfl, zdf_1.2⟩
  | 2, q, tg, h, ht => by cases h; have e := Option.some.inj (zdf_2.1.symm.trans ht); subst e; exact ⟨rfl, zdf_2.2⟩
  | 3, q, tg, h, ht => by cases h; have e := Option.some.inj (zdf_3.1.symm.trans ht); subst e; exact ⟨rfl, zdf_3.2⟩
  | 4, q, tg, h, ht => by cases h; have e := Option.some.inj (zdf_4.1.symm.trans ht); subst e; exact ⟨rfl, zdf_4.2⟩
  | 5, q, tg, h, ht => by cases h; have e := Option.some.inj (zdf_5.1.symm.trans ht); subst e; exact ⟨rfl, zdf_5.2⟩
  | 6, q, tg, h, ht => by cases h; have e := Option.some.inj (zdf_6.1.symm.trans ht); subst e; exact ⟨rfl, zdf_6.2⟩
  | 7, q, tg, h, ht => by cases h; have e := Option.some.inj (zdf_7.1.symm.trans ht); subst e; exact ⟨rfl, zdf_7.2⟩
  | 8, q, tg, h, ht => by cases h; have e := Option.some.inj (zdf_8.1.symm.trans ht); subst e; exact ⟨rfl, zdf_8.2⟩
  | 9, q, tg, h, ht => by cases h; have e := Option.some.inj (zdf_9.1.symm.trans ht); subst e; exact ⟨rfl, zdf_9.2⟩
  | 10, q, tg, h, ht => by cases h; have e := Option.some.inj (zdf_10.1.symm.trans ht); subst e; exact ⟨rfl, zdf_10.2⟩
  | n + 11, q, tg, h, ht => by exact absurd (List.getElem?_eq_some_iff.mp h).1 (by show ¬ n + 11 < 11; omega)
theorem zArr_I : Cond.arrayClass .int ∈ zGW := zg1 82 rfl rfl
theorem zArr_Z : Cond.arrayClass .boolean ∈ zGW := zg2 39 rfl rfl
theorem zArr_B : Cond.arrayClass .byte ∈ zGW := zg1 49 rfl rfl
theorem zArr_J : Cond.arrayClass .long ∈ zGW := zg2 40 rfl rfl
