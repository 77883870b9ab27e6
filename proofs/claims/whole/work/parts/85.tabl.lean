theorem zkl_0 : ((zl_Law_law.getD 0 (0, [])).2.all fun q => zChk (x, code, maxLocals, ret, 11, 390, 11, 1, 2) (1000, 20000) q.1 q.2) = true := by decide +kernel
theorem zkl_1 : ((zl_Law_law.getD 1 (0, [])).2.all fun q => zChk (x, code, maxLocals, ret, 11, 390, 11, 1, 2) (1000, 20000) q.1 q.2) = true := by decide +kernel
theorem zkl_2 : ((zl_Law_law.getD 2 (0, [])).2.all fun q => zChk (x, code, maxLocals, ret, 11, 390, 11, 1, 2) (1000, 20000) q.1 q.2) = true := by decide +kernel
theorem zkl_3 : ((zl_Law_law.getD 3 (0, [])).2.all fun q => zChk (x, code, maxLocals, ret, 11, 390, 11, 1, 2) (1000, 20000) q.1 q.2) = true := by decide +kernel
theorem zkl_4 : ((zl_Law_law.getD 4 (0, [])).2.all fun q => zChk (x, code, maxLocals, ret, 11, 390, 11, 1, 2) (1000, 20000) q.1 q.2) = true := by decide +kernel
theorem zkl_5 : ((zl_Law_law.getD 5 (0, [])).2.all fun q => zChk (x, code, maxLocals, ret, 11, 390, 11, 1, 2) (1000, 20000) q.1 q.2) = true := by decide +kernel
theorem zkl_6 : ((zl_Law_law.getD 6 (0, [])).2.all fun q => zChk (x, code, maxLocals, ret, 11, 390, 11, 1, 2) (1000, 20000) q.1 q.2) = true := by decide +kernel
theorem zkl_7 : ((zl_Law_law.getD 7 (0, [])).2.all fun q => zChk (x, code, maxLocals, ret, 11, 390, 11, 1, 2) (1000, 20000) q.1 q.2) = true := by decide +kernel
theorem zkl_8 : ((zl_Law_law.getD 8 (0, [])).2.all fun q => zChk (x, code, maxLocals, ret, 11, 390, 11, 1, 2) (1000, 20000) q.1 q.2) = true := by decide +kernel
theorem zkl_9 : ((zl_Law_law.getD 9 (0, [])).2.all fun q => zChk (x, code, maxLocals, ret, 11, 390, 11, 1, 2) (1000, 20000) q.1 q.2) = true := by decide +kernel
theorem zkl_10 : ((zl_Law_law.getD 10 (0, [])).2.all fun q => zChk (x, code, maxLocals, ret, 11, 390, 11, 1, 2) (1000, 20000) q.1 q.2) = true := by decide +kernel
theorem zkl_11 : ((zl_Law_law.getD 11 (0, [])).2.all fun q => zChk (x, code, maxLocals, ret, 11, 390, 11, 1, 2) (1000, 20000) q.1 q.2) = true := by decide +kernel
theorem zkl_12 : ((zl_Law_law.getD 12 (0, [])).2.all fun q => zChk (x, code, maxLocals, ret, 11, 390, 11, 1, 2) (1000, 20000) q.1 q.2) = true := by decide +kernel
theorem zkl_13 : ((zl_Law_law.getD 13 (0, [])).2.all fun q => zChk (x, code, maxLocals, ret, 11, 390, 11, 1, 2) (1000, 20000) q.1 q.2) = true := by decide +kernel
theorem zkl_14 : ((zl_Law_law.getD 14 (0, [])).2.all fun q => zChk (x, code, maxLocals, ret, 11, 390, 11, 1, 2) (1000, 20000) q.1 q.2) = true := by decide +kernel
theorem zkl_15 : ((zl_Law_law.getD 15 (0, [])).2.all fun q => zChk (x, code, maxLocals, ret, 11, 390, 11, 1, 2) (1000, 20000) q.1 q.2) = true := by decide +kernel
theorem zkl_16 : ((zl_Law_law.getD 16 (0, [])).2.all fun q => zChk (x, code, maxLocals, ret, 11, 390, 11, 1, 2) (1000, 20000) q.1 q.2) = true := by decide +kernel
theorem zkl_17 : ((zl_Law_law.getD 17 (0, [])).2.all fun q => zChk (x, code, maxLocals, ret, 11, 390, 11, 1, 2) (1000, 20000) q.1 q.2) = true := by decide +kernel
theorem zkl_18 : ((zl_Law_law.getD 18 (0, [])).2.all fun q => zChk (x, code, maxLocals, ret, 11, 390, 11, 1, 2) (1000, 20000) q.1 q.2) = true := by decide +kernel
theorem zkl_19 : ((zl_Law_law.getD 19 (0, [])).2.all fun q => zChk (x, code, maxLocals, ret, 11, 390, 11, 1, 2) (1000, 20000) q.1 q.2) = true := by decide +kernel
theorem zkl_20 : ((zl_Law_law.getD 20 (0, [])).2.all fun q => zChk (x, code, maxLocals, ret, 11, 390, 11, 1, 2) (1000, 20000) q.1 q.2) = true := by decide +kernel
theorem zkl_21 : ((zl_Law_law.getD 21 (0, [])).2.all fun q => zChk (x, code, maxLocals, ret, 11, 390, 11, 1, 2) (1000, 20000) q.1 q.2) = true := by decide +kernel
theorem zkl_22 : ((zl_Law_law.getD 22 (0, [])).2.all fun q => zChk (x, code, maxLocals, ret, 11, 390, 11, 1, 2) (1000, 20000) q.1 q.2) = true := by decide +kernel
theorem zkl_23 : ((zl_Law_law.getD 23 (0, [])).2.all fun q => zChk (x, code, maxLocals, ret, 11, 390, 11, 1, 2) (1000, 20000) q.1 q.2) = true := by decide +kernel
theorem zkl_24 : ((zl_Law_law.getD 24 (0, [])).2.all fun q => zChk (x, code, maxLocals, ret, 11, 390, 11, 1, 2) (1000, 20000) q.1 q.2) = true := by decide +kernel
theorem zkl_25 : ((zl_Law_law.getD 25 (0, [])).2.all fun q => zChk (x, code, maxLocals, ret, 11, 390, 11, 1, 2) (1000, 20000) q.1 q.2) = true := by decide +kernel
theorem zkl_26 : ((zl_Law_law.getD 26 (0, [])).2.all fun q => zChk (x, code, maxLocals, ret, 11, 390, 11, 1, 2) (1000, 20000) q.1 q.2) = true := by decide +kernel
theorem zkl_27 : ((zl_Law_law.getD 27 (0, [])).2.all fun q => zChk (x, code, maxLocals, ret, 11, 390, 11, 1, 2) (1000, 20000) q.1 q.2) = true := by decide +kernel
theorem zkl_28 : ((zl_Law_law.getD 28 (0, [])).2.all fun q => zChk (x, code, maxLocals, ret, 11, 390, 11, 1, 2) (1000, 20000) q.1 q.2) = true := by decide +kernel
theorem zkl_29 : ((zl_Law_law.getD 29 (0, [])).2.all fun q => zChk (x, code, maxLocals, ret, 11, 390, 11, 1, 2) (1000, 20000) q.1 q.2) = true := by decide +kernel
theorem zk_Law_law : (zl_Law_law.all fun c => c.2.all fun q => zChk (x, code, maxLocals, ret, 11, 390, 11, 1, 2) (1000, 20000) q.1 q.2) = true := by
  have h : ∀ i ∈ ([0, 1, 2, 3, 4, 5, 6, 7, 8, 9, 10, 11, 12, 13, 14, 15, 16, 17, 18, 19, 20, 21, 22, 23, 24, 25, 26, 27, 28, 29] : List Nat), ((zl_Law_law.getD i (0, [])).2.all fun q => zChk (x, code, maxLocals, ret, 11, 390, 11, 1, 2) (1000, 20000) q.1 q.2) = true := List.forall_mem_cons.mpr ⟨zkl_0, List.forall_mem_cons.mpr ⟨zkl_1, List.forall_mem_cons.mpr ⟨zkl_2, List.forall_mem_cons.mpr ⟨zkl_3, List.forall_mem_cons.mpr ⟨zkl_4, List.forall_mem_cons.mpr ⟨zkl_5, List.forall_mem_cons.mpr ⟨zkl_6, List.forall_mem_cons.mpr ⟨zkl_7, List.forall_mem_cons.mpr ⟨zkl_8, List.forall_mem_cons.mpr ⟨zkl_9, List.forall_mem_cons.mpr ⟨zkl_10, List.forall_mem_cons.mpr ⟨zkl_11, List.forall_mem_cons.mpr ⟨zkl_12, List.forall_mem_cons.mpr ⟨zkl_13, List.forall_mem_cons.mpr ⟨zkl_14, List.forall_mem_cons.mpr ⟨zkl_15, List.forall_mem_cons.mpr ⟨zkl_16, List.forall_mem_cons.mpr ⟨zkl_17, List.forall_mem_cons.mpr ⟨zkl_18, List.forall_mem_cons.mpr ⟨zkl_19, List.forall_mem_cons.mpr ⟨zkl_20, List.forall_mem_cons.mpr ⟨zkl_21, List.forall_mem_cons.mpr ⟨zkl_22, List.forall_mem_cons.mpr ⟨zkl_23, List.forall_mem_cons.mpr ⟨zkl_24, List.forall_mem_cons.mpr ⟨zkl_25, List.forall_mem_cons.mpr ⟨zkl_26, List.forall_mem_cons.mpr ⟨zkl_27, List.forall_mem_cons.mpr ⟨zkl_28, List.forall_mem_cons.mpr ⟨zkl_29, fun _ h => absurd h List.not_mem_nil⟩⟩⟩⟩⟩⟩⟩⟩⟩⟩⟩⟩⟩⟩⟩⟩⟩⟩⟩⟩⟩⟩⟩⟩⟩⟩⟩⟩⟩⟩
  refine List.all_eq_true.mpr fun c hc => ?_
  obtain ⟨i, hi⟩ := List.getElem?_of_mem hc
  have hlt : i < 30 := (List.getElem?_eq_some_iff.mp hi).1
  have hm : i ∈ ([0, 1, 2, 3, 4, 5, 6, 7, 8, 9, 10, 11, 12, 13, 14, 15, 16, 17, 18, 19, 20, 21, 22, 23, 24, 25, 26, 27, 28, 29] : List Nat) := by
    rw [show ([0, 1, 2, 3, 4, 5, 6, 7, 8, 9, 10, 11, 12, 13, 14, 15, 16, 17, 18, 19, 20, 21, 22, 23, 24, 25, 26, 27, 28, 29] : List Nat) = List.range 30 by decide +kernel]
    exact List.mem_range.mpr hlt
  have := h i hm
  rw [List.getD_eq_getElem?_getD, hi] at this
  exact this
