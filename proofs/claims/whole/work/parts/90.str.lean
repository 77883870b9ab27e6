def RJ0 : String := "java/lang/String"
def RJ1 : String := "java/lang/StringLatin1"
def RJ3 : String := "jdk/internal/util/Preconditions"
abbrev cJ0_length_8abf5 : ByteArray := prog_15_method_54_code
def yJ0_length_8abf5 : MethodName := ⟨RJ0, "length", "()I"⟩
theorem dJ0_length_8abf5_0 : decode cJ0_length_8abf5 0 = .ok (.aload_n 0, 1) := by decide +kernel
theorem dJ0_length_8abf5_1 : decode cJ0_length_8abf5 1 = .ok (.getfield 9, 3) := by decide +kernel
theorem dJ0_length_8abf5_4 : decode cJ0_length_8abf5 4 = .ok (.arraylength, 1) := by decide +kernel
theorem dJ0_length_8abf5_5 : decode cJ0_length_8abf5 5 = .ok (.aload_n 0, 1) := by decide +kernel
theorem dJ0_length_8abf5_6 : decode cJ0_length_8abf5 6 = .ok (.invokevirtual 335, 3) := by decide +kernel
theorem dJ0_length_8abf5_9 : decode cJ0_length_8abf5 9 = .ok (.ishr, 1) := by decide +kernel
theorem dJ0_length_8abf5_10 : decode cJ0_length_8abf5 10 = .ok (.ireturn, 1) := by decide +kernel
abbrev cJ0_coder_7d493 : ByteArray := prog_15_method_152_code
def yJ0_coder_7d493 : MethodName := ⟨RJ0, "coder", "()B"⟩
theorem dJ0_coder_7d493_0 : decode cJ0_coder_7d493 0 = .ok (.getstatic 38, 3) := by decide +kernel
theorem dJ0_coder_7d493_3 : decode cJ0_coder_7d493 3 = .ok (.ifCond .eq 10, 3) := by decide +kernel
theorem dJ0_coder_7d493_6 : decode cJ0_coder_7d493 6 = .ok (.aload_n 0, 1) := by decide +kernel
theorem dJ0_coder_7d493_7 : decode cJ0_coder_7d493 7 = .ok (.getfield 15, 3) := by decide +kernel
theorem dJ0_coder_7d493_10 : decode cJ0_coder_7d493 10 = .ok (.goto 4, 3) := by decide +kernel
theorem dJ0_coder_7d493_13 : decode cJ0_coder_7d493 13 = .ok (.iconst 1, 1) := by decide +kernel
theorem dJ0_coder_7d493_14 : decode cJ0_coder_7d493 14 = .ok (.ireturn, 1) := by decide +kernel
abbrev cJ0_isLatin1_aae02 : ByteArray := prog_15_method_154_code
def yJ0_isLatin1_aae02 : MethodName := ⟨RJ0, "isLatin1", "()Z"⟩
theorem dJ0_isLatin1_aae02_0 : decode cJ0_isLatin1_aae02 0 = .ok (.getstatic 38, 3) := by decide +kernel
theorem dJ0_isLatin1_aae02_3 : decode cJ0_isLatin1_aae02 3 = .ok (.ifCond .eq 14, 3) := by decide +kernel
theorem dJ0_isLatin1_aae02_6 : decode cJ0_isLatin1_aae02 6 = .ok (.aload_n 0, 1) := by decide +kernel
theorem dJ0_isLatin1_aae02_7 : decode cJ0_isLatin1_aae02 7 = .ok (.getfield 15, 3) := by decide +kernel
theorem dJ0_isLatin1_aae02_10 : decode cJ0_isLatin1_aae02 10 = .ok (.ifCond .ne 7, 3) := by decide +kernel
theorem dJ0_isLatin1_aae02_13 : decode cJ0_isLatin1_aae02 13 = .ok (.iconst 1, 1) := by decide +kernel
theorem dJ0_isLatin1_aae02_14 : decode cJ0_isLatin1_aae02 14 = .ok (.goto 4, 3) := by decide +kernel
theorem dJ0_isLatin1_aae02_17 : decode cJ0_isLatin1_aae02 17 = .ok (.iconst 0, 1) := by decide +kernel
theorem dJ0_isLatin1_aae02_18 : decode cJ0_isLatin1_aae02 18 = .ok (.ireturn, 1) := by decide +kernel
abbrev cJ0_charAt_5068e : ByteArray := prog_15_method_56_code
def yJ0_charAt_5068e : MethodName := ⟨RJ0, "charAt", "(I)C"⟩
theorem dJ0_charAt_5068e_0 : decode cJ0_charAt_5068e 0 = .ok (.aload_n 0, 1) := by decide +kernel
theorem dJ0_charAt_5068e_1 : decode cJ0_charAt_5068e 1 = .ok (.invokevirtual 492, 3) := by decide +kernel
theorem dJ0_charAt_5068e_4 : decode cJ0_charAt_5068e 4 = .ok (.ifCond .eq 12, 3) := by decide +kernel
theorem dJ0_charAt_5068e_7 : decode cJ0_charAt_5068e 7 = .ok (.aload_n 0, 1) := by decide +kernel
theorem dJ0_charAt_5068e_8 : decode cJ0_charAt_5068e 8 = .ok (.getfield 9, 3) := by decide +kernel
theorem dJ0_charAt_5068e_11 : decode cJ0_charAt_5068e 11 = .ok (.iload_n 1, 1) := by decide +kernel
theorem dJ0_charAt_5068e_12 : decode cJ0_charAt_5068e 12 = .ok (.invokestatic 495, 3) := by decide +kernel
theorem dJ0_charAt_5068e_15 : decode cJ0_charAt_5068e 15 = .ok (.ireturn, 1) := by decide +kernel
theorem dJ0_charAt_5068e_16 : decode cJ0_charAt_5068e 16 = .ok (.aload_n 0, 1) := by decide +kernel
theorem dJ0_charAt_5068e_17 : decode cJ0_charAt_5068e 17 = .ok (.getfield 9, 3) := by decide +kernel
theorem dJ0_charAt_5068e_20 : decode cJ0_charAt_5068e 20 = .ok (.iload_n 1, 1) := by decide +kernel
theorem dJ0_charAt_5068e_21 : decode cJ0_charAt_5068e 21 = .ok (.invokestatic 498, 3) := by decide +kernel
theorem dJ0_charAt_5068e_24 : decode cJ0_charAt_5068e 24 = .ok (.ireturn, 1) := by decide +kernel
abbrev cJ0_checkIndex_df160 : ByteArray := prog_15_method_155_code
def yJ0_checkIndex_df160 : MethodName := ⟨RJ0, "checkIndex", "(II)V"⟩
theorem dJ0_checkIndex_df160_0 : decode cJ0_checkIndex_df160 0 = .ok (.iload_n 0, 1) := by decide +kernel
theorem dJ0_checkIndex_df160_1 : decode cJ0_checkIndex_df160 1 = .ok (.iload_n 1, 1) := by decide +kernel
theorem dJ0_checkIndex_df160_2 : decode cJ0_checkIndex_df160 2 = .ok (.getstatic 1053, 3) := by decide +kernel
theorem dJ0_checkIndex_df160_5 : decode cJ0_checkIndex_df160 5 = .ok (.invokestatic 1059, 3) := by decide +kernel
theorem dJ0_checkIndex_df160_8 : decode cJ0_checkIndex_df160 8 = .ok (.pop, 1) := by decide +kernel
theorem dJ0_checkIndex_df160_9 : decode cJ0_checkIndex_df160 9 = .ok (.return_, 1) := by decide +kernel
abbrev cJ1_charAt_3b067 : ByteArray := prog_16_method_2_code
def yJ1_charAt_3b067 : MethodName := ⟨RJ1, "charAt", "([BI)C"⟩
theorem dJ1_charAt_3b067_0 : decode cJ1_charAt_3b067 0 = .ok (.iload_n 1, 1) := by decide +kernel
theorem dJ1_charAt_3b067_1 : decode cJ1_charAt_3b067 1 = .ok (.aload_n 0, 1) := by decide +kernel
theorem dJ1_charAt_3b067_2 : decode cJ1_charAt_3b067 2 = .ok (.arraylength, 1) := by decide +kernel
theorem dJ1_charAt_3b067_3 : decode cJ1_charAt_3b067 3 = .ok (.invokestatic 9, 3) := by decide +kernel
theorem dJ1_charAt_3b067_6 : decode cJ1_charAt_3b067 6 = .ok (.aload_n 0, 1) := by decide +kernel
theorem dJ1_charAt_3b067_7 : decode cJ1_charAt_3b067 7 = .ok (.iload_n 1, 1) := by decide +kernel
theorem dJ1_charAt_3b067_8 : decode cJ1_charAt_3b067 8 = .ok (.baload, 1) := by decide +kernel
theorem dJ1_charAt_3b067_9 : decode cJ1_charAt_3b067 9 = .ok (.sipush 255, 3) := by decide +kernel
theorem dJ1_charAt_3b067_12 : decode cJ1_charAt_3b067 12 = .ok (.iand, 1) := by decide +kernel
theorem dJ1_charAt_3b067_13 : decode cJ1_charAt_3b067 13 = .ok (.i2c, 1) := by decide +kernel
theorem dJ1_charAt_3b067_14 : decode cJ1_charAt_3b067 14 = .ok (.ireturn, 1) := by decide +kernel
abbrev cJ3_checkIndex_8e157 : ByteArray := prog_20_method_11_code
def yJ3_checkIndex_8e157 : MethodName := ⟨RJ3, "checkIndex", "(IILjava/util/function/BiFunction;)I"⟩
theorem dJ3_checkIndex_8e157_0 : decode cJ3_checkIndex_8e157 0 = .ok (.iload_n 0, 1) := by decide +kernel
theorem dJ3_checkIndex_8e157_1 : decode cJ3_checkIndex_8e157 1 = .ok (.ifCond .lt 8, 3) := by decide +kernel
theorem dJ3_checkIndex_8e157_4 : decode cJ3_checkIndex_8e157 4 = .ok (.iload_n 0, 1) := by decide +kernel
theorem dJ3_checkIndex_8e157_5 : decode cJ3_checkIndex_8e157 5 = .ok (.iload_n 1, 1) := by decide +kernel
theorem dJ3_checkIndex_8e157_6 : decode cJ3_checkIndex_8e157 6 = .ok (.if_icmp .lt 10, 3) := by decide +kernel
theorem dJ3_checkIndex_8e157_9 : decode cJ3_checkIndex_8e157 9 = .ok (.aload_n 2, 1) := by decide +kernel
theorem dJ3_checkIndex_8e157_10 : decode cJ3_checkIndex_8e157 10 = .ok (.iload_n 0, 1) := by decide +kernel
theorem dJ3_checkIndex_8e157_11 : decode cJ3_checkIndex_8e157 11 = .ok (.iload_n 1, 1) := by decide +kernel
theorem dJ3_checkIndex_8e157_12 : decode cJ3_checkIndex_8e157 12 = .ok (.invokestatic 95, 3) := by decide +kernel
theorem dJ3_checkIndex_8e157_15 : decode cJ3_checkIndex_8e157 15 = .ok (.athrow, 1) := by decide +kernel
theorem dJ3_checkIndex_8e157_16 : decode cJ3_checkIndex_8e157 16 = .ok (.iload_n 0, 1) := by decide +kernel
theorem dJ3_checkIndex_8e157_17 : decode cJ3_checkIndex_8e157 17 = .ok (.ireturn, 1) := by decide +kernel
theorem zsc_J0_length_8abf5 : Cond.code yJ0_length_8abf5 cJ0_length_8abf5 1 (Option.some Jvm.ClassFile.FieldType.int) ∈ zGW := zg2 134 rfl rfl
theorem zsi_J0_length_8abf5 : Cond.initialized yJ0_length_8abf5.cls ∈ zGW := zg1 13 rfl rfl
theorem zsm_J0_length_8abf5 : Cond.instanceMethod yJ0_length_8abf5 ∈ zGW := zg2 132 rfl rfl
theorem zsl_J0_length_8abf5 : Cond.selects yJ0_length_8abf5.cls yJ0_length_8abf5 yJ0_length_8abf5 ∈ zGW := zg2 133 rfl rfl
theorem zsc_J0_coder_7d493 : Cond.code yJ0_coder_7d493 cJ0_coder_7d493 1 (Option.some Jvm.ClassFile.FieldType.byte) ∈ zGW := zg2 138 rfl rfl
theorem zsi_J0_coder_7d493 : Cond.initialized yJ0_coder_7d493.cls ∈ zGW := zg1 13 rfl rfl
theorem zsm_J0_coder_7d493 : Cond.instanceMethod yJ0_coder_7d493 ∈ zGW := zg2 136 rfl rfl
theorem zsl_J0_coder_7d493 : Cond.selects yJ0_coder_7d493.cls yJ0_coder_7d493 yJ0_coder_7d493 ∈ zGW := zg2 137 rfl rfl
theorem zsc_J0_isLatin1_aae02 : Cond.code yJ0_isLatin1_aae02 cJ0_isLatin1_aae02 1 (Option.some Jvm.ClassFile.FieldType.boolean) ∈ zGW := zg2 148 rfl rfl
theorem zsi_J0_isLatin1_aae02 : Cond.initialized yJ0_isLatin1_aae02.cls ∈ zGW := zg1 13 rfl rfl
theorem zsm_J0_isLatin1_aae02 : Cond.instanceMethod yJ0_isLatin1_aae02 ∈ zGW := zg2 146 rfl rfl
theorem zsl_J0_isLatin1_aae02 : Cond.selects yJ0_isLatin1_aae02.cls yJ0_isLatin1_aae02 yJ0_isLatin1_aae02 ∈ zGW := zg2 147 rfl rfl
theorem zsc_J0_charAt_5068e : Cond.code yJ0_charAt_5068e cJ0_charAt_5068e 2 (Option.some Jvm.ClassFile.FieldType.char) ∈ zGW := zg2 144 rfl rfl
theorem zsi_J0_charAt_5068e : Cond.initialized yJ0_charAt_5068e.cls ∈ zGW := zg1 13 rfl rfl
theorem zsm_J0_charAt_5068e : Cond.instanceMethod yJ0_charAt_5068e ∈ zGW := zg2 142 rfl rfl
theorem zsl_J0_charAt_5068e : Cond.selects yJ0_charAt_5068e.cls yJ0_charAt_5068e yJ0_charAt_5068e ∈ zGW := zg2 143 rfl rfl
theorem zsc_J0_checkIndex_df160 : Cond.code yJ0_checkIndex_df160 cJ0_checkIndex_df160 2 (Option.none : Option Jvm.ClassFile.FieldType) ∈ zGW := zg2 154 rfl rfl
theorem zsi_J0_checkIndex_df160 : Cond.initialized yJ0_checkIndex_df160.cls ∈ zGW := zg1 13 rfl rfl
theorem zss_J0_checkIndex_df160 : Cond.static yJ0_checkIndex_df160 ∈ zGW := zg2 153 rfl rfl
theorem zsc_J1_charAt_3b067 : Cond.code yJ1_charAt_3b067 cJ1_charAt_3b067 2 (Option.some Jvm.ClassFile.FieldType.char) ∈ zGW := zg2 151 rfl rfl
theorem zsi_J1_charAt_3b067 : Cond.initialized yJ1_charAt_3b067.cls ∈ zGW := zg1 14 rfl rfl
theorem zss_J1_charAt_3b067 : Cond.static yJ1_charAt_3b067 ∈ zGW := zg2 150 rfl rfl
theorem zsc_J3_checkIndex_8e157 : Cond.code yJ3_checkIndex_8e157 cJ3_checkIndex_8e157 3 (Option.some Jvm.ClassFile.FieldType.int) ∈ zGW := zg2 159 rfl rfl
theorem zsi_J3_checkIndex_8e157 : Cond.initialized yJ3_checkIndex_8e157.cls ∈ zGW := zg1 15 rfl rfl
theorem zss_J3_checkIndex_8e157 : Cond.static yJ3_checkIndex_8e157 ∈ zGW := zg2 158 rfl rfl
theorem zk_len : Cond.methodLink RX6 zStrIx.1 yJ0_length_8abf5 ∈ zGW := zg2 131 rfl rfl
theorem zk_chr : Cond.methodLink RX6 zStrIx.2 yJ0_charAt_5068e ∈ zGW := zg2 141 rfl rfl
theorem zk_cod : Cond.methodLink RJ0 335 yJ0_coder_7d493 ∈ zGW := zg2 135 rfl rfl
theorem zk_lat : Cond.methodLink RJ0 492 yJ0_isLatin1_aae02 ∈ zGW := zg2 145 rfl rfl
theorem zk_lch : Cond.methodLink RJ0 495 yJ1_charAt_3b067 ∈ zGW := zg2 149 rfl rfl
theorem zk_chk : Cond.methodLink RJ1 9 yJ0_checkIndex_df160 ∈ zGW := zg2 152 rfl rfl
theorem zk_pre : Cond.methodLink RJ0 1059 yJ3_checkIndex_8e157 ∈ zGW := zg2 157 rfl rfl
theorem zf_val : Cond.fieldLink RJ0 9 "java/lang/String" "value" "[B" ∈ zGW := zg6 84 rfl rfl
theorem zf_cod : Cond.fieldLink RJ0 15 "java/lang/String" "coder" "B" ∈ zGW := zg6 85 rfl rfl
theorem zf_cmp : Cond.fieldLink RJ0 38 "java/lang/String" "COMPACT_STRINGS" "Z" ∈ zGW := zg2 139 rfl rfl
theorem zf_sio : Cond.fieldLink RJ0 1053 "jdk/internal/util/Preconditions" "SIOOBE_FORMATTER" "Ljava/util/function/BiFunction;" ∈ zGW := zg2 155 rfl rfl
/-- what the texts' members stand on -/
def zBs (G : zGl) (U : State) : Prop := (∀ q, q < zgn G → U.heap[q]? = (zgH G)[q]?) ∧ zgn G ≤ U.heap.size ∧ zEv G U
theorem zBs_blind {G : zGl} {as : List Value} : FrameBlind (va_Pc as (zBs G)) := fun a U g mk ⟨h1, h2, h3, h4⟩ => ⟨h1, h2, h3, zEv_same (U := U.calling g mk a) (s := U) rfl h4⟩
theorem zBs_pre {G : zGl} {s : State} {as : List Value} (h : zBs G s) : PreS s s.heap (va_Pc as (zBs G)) as := ⟨zBs_blind, fun U hU hW => ⟨rfl, by rw [hU]; exact h.1, by rw [hU]; exact h.2.1, zEv_warm hW h.2.2⟩⟩
def zBl : List Nat := [6, 4, 5, 5]
def zBb : List (List Int32) := [[99, 108, 111, 99, 107, 115], [104, 101, 97, 114], [108, 105, 109, 105, 116], [108, 101, 97, 115, 116]]
def zWy (y : MethodName) (b : ByteArray) (n : Nat) (r : Option FieldType) : List Cond := Cond.code y b n r :: zGW
theorem zWy_good {y : MethodName} {b : ByteArray} {n : Nat} {r : Option FieldType} (h : Cond.code y b n r ∈ zGW) : GoodIn zGW (zWy y b n r) := fun w hw => by
  rcases List.mem_cons.mp hw with e | e
  · rw [e]; exact zGood h
  · exact zGood e
theorem zWyV {y : MethodName} {b : ByteArray} {n : Nat} {r : Option FieldType} {own : String} {idx : Nat} (h : Cond.code y b n r ∈ zGW) (h1 : Cond.methodLink own idx y ∈ zGW) (h2 : Cond.instanceMethod y ∈ zGW) (h3 : Cond.selects y.cls y y ∈ zGW) (h4 : Cond.initialized y.cls ∈ zGW) : GoodIn zGW (wsV own idx y.cls y (zWy y b n r)) := fun w hw => by
  rcases List.mem_append.mp hw with e | e
  · simp only [List.mem_cons, List.not_mem_nil, or_false] at e
    rcases e with rfl | rfl | rfl | rfl
    · exact zGood h1
    · exact zGood h2
    · exact zGood h3
    · exact zGood h4
  · exact zWy_good h w e
section ZB
variable {G : zGl} {s : State}
theorem zB_keep (hG : zGok G) (h : zBs G s) : ∀ a : Nat, a < (zgH G).size → ¬ (zgn G ≤ a) → s.heap[a]? = (zgH G)[a]? := fun a ha _ => h.1 a (by rw [← hG.1]; exact ha)
/-- the text number i, its cells -/
theorem zB_S (hG : zGok G) (h : zBs G s) : vk_S 4 zBl zBb (fun i => zgo G (i + 1)) (fun i => zgo G (100 + i)) (fun q => zgn G ≤ q) s s.heap := vk_S.kept h.2.2.2.2.2.2.2.1 (zB_keep hG h)
theorem zB_Z (hG : zGok G) (h : zBs G s) : va_Z "java/lang/String" "COMPACT_STRINGS" "Z" (.int 1) (fun q => zgn G ≤ q) s s.heap := h.2.2.2.2.2.2.2.2.1.kept (zB_keep hG h)
theorem zB_Q (hG : zGok G) (h : zBs G s) : va_Zq "jdk/internal/util/Preconditions" "SIOOBE_FORMATTER" "Ljava/util/function/BiFunction;" (fun q => zgn G ≤ q) s s.heap := h.2.2.2.2.2.2.2.2.2.kept (zB_keep hG h)
end ZB
set_option maxHeartbeats 4000000 in
theorem zs_coder {G : zGl} {l : Launch} (hG : zGok G) {i : Nat} (hi : i < 4) : Met l yJ0_coder_7d493 (zWy yJ0_coder_7d493 cJ0_coder_7d493 1 (some .byte)) (k2_rm 0 0) (va_Pc [.ref (zgo G (i + 1))] (zBs G)) (QcRead 0) 0 0 (fun _ => False) := by
  refine va_MetF (cc := cJ0_coder_7d493) (maxL := 1) (ret := some .byte) (by decide +kernel) rfl ?_
  intro p e s m args below meth c s₁ B hml hv
  obtain ⟨rfl, hB⟩ := hv
  have hx := B.exec
  have hb := B.bytes
  have hr := B.returns
  have hts := atoms_spec (ws := zWy yJ0_coder_7d493 cJ0_coder_7d493 1 (some .byte)) B.pre
  have hown : s.vm.findClass RJ0 = some m.cls := findClass_of_methodNamed B.named
  have hlocks := B.notSynchronized
  have hS4 := zB_S hG hB
  have hl := lv_entry ([.ref (zgo G (i + 1))]) (n := 1) (Nat.le_of_ble_eq_true rfl)
  rw [lg_entry_eq]
  generalize (lg_sl ([.ref (zgo G (i + 1))]) ++ List.replicate (1 - (lg_sl ([.ref (zgo G (i + 1))])).length) Slot.unset).toArray = ls at hl ⊢
  have hl : lv_has ls 1 [(0, .ref (zgo G (i + 1)))] := hl
  refine va_gets hx hb (zB_Z hG hB) va_S.rf hown (hts _ (List.mem_cons_of_mem _ zf_cmp)) (fun _ h => h) dJ0_coder_7d493_0 ?_
  refine lv_if_eq (tgt := 13) hx hb dJ0_coder_7d493_3 (by decide) (fun q => absurd q (by decide)) (fun _ => ?_)
  refine lv_aload_n hx hb dJ0_coder_7d493_6 rfl (lv_at hl 0 rfl) ?_
  refine vk_getf hx hb (hS4.1 i hi).2.1 va_S.rf hown (hts _ (List.mem_cons_of_mem _ zf_cod)) (fun _ h => h) dJ0_coder_7d493_7 ?_
  refine lv_goto (tgt := 14) hx hb dJ0_coder_7d493_10 (by decide) ?_
  exact W.zret hx hb hr rfl (fun t ht _ => ⟨rfl, ht⟩) (fun q hq => by cases hq) dJ0_coder_7d493_14
set_option maxHeartbeats 4000000 in
theorem zs_lat {G : zGl} {l : Launch} (hG : zGok G) {i : Nat} (hi : i < 4) : Met l yJ0_isLatin1_aae02 (zWy yJ0_isLatin1_aae02 cJ0_isLatin1_aae02 1 (some .boolean)) (k2_rm 0 0) (va_Pc [.ref (zgo G (i + 1))] (zBs G)) (QcRead 1) 0 0 (fun _ => False) := by
  refine va_MetF (cc := cJ0_isLatin1_aae02) (maxL := 1) (ret := some .boolean) (by decide +kernel) rfl ?_
  intro p e s m args below meth c s₁ B hml hv
  obtain ⟨rfl, hB⟩ := hv
  have hx := B.exec
  have hb := B.bytes
  have hr := B.returns
  have hts := atoms_spec (ws := zWy yJ0_isLatin1_aae02 cJ0_isLatin1_aae02 1 (some .boolean)) B.pre
  have hown : s.vm.findClass RJ0 = some m.cls := findClass_of_methodNamed B.named
  have hlocks := B.notSynchronized
  have hS4 := zB_S hG hB
  have hl := lv_entry ([.ref (zgo G (i + 1))]) (n := 1) (Nat.le_of_ble_eq_true rfl)
  rw [lg_entry_eq]
  generalize (lg_sl ([.ref (zgo G (i + 1))]) ++ List.replicate (1 - (lg_sl ([.ref (zgo G (i + 1))])).length) Slot.unset).toArray = ls at hl ⊢
  have hl : lv_has ls 1 [(0, .ref (zgo G (i + 1)))] := hl
  refine va_gets hx hb (zB_Z hG hB) va_S.rf hown (hts _ (List.mem_cons_of_mem _ zf_cmp)) (fun _ h => h) dJ0_isLatin1_aae02_0 ?_
  refine lv_if_eq (tgt := 17) hx hb dJ0_isLatin1_aae02_3 (by decide) (fun q => absurd q (by decide)) (fun _ => ?_)
  refine lv_aload_n hx hb dJ0_isLatin1_aae02_6 rfl (lv_at hl 0 rfl) ?_
  refine vk_getf hx hb (hS4.1 i hi).2.1 va_S.rf hown (hts _ (List.mem_cons_of_mem _ zf_cod)) (fun _ h => h) dJ0_isLatin1_aae02_7 ?_
  refine lv_if_ne (tgt := 17) hx hb dJ0_isLatin1_aae02_10 (by decide) (fun q => absurd rfl q) (fun _ => ?_)
  refine lv_iconst (v := 1) hx hb dJ0_isLatin1_aae02_13 (by decide) ?_
  refine lv_goto (tgt := 18) hx hb dJ0_isLatin1_aae02_14 (by decide) ?_
  exact W.zret hx hb hr rfl (fun t ht _ => ⟨rfl, ht⟩) (fun q hq => by cases hq) dJ0_isLatin1_aae02_18
set_option maxHeartbeats 4000000 in
theorem zs_len {G : zGl} {l : Launch} (hG : zGok G) {i : Nat} (hi : i < 4) : Met l yJ0_length_8abf5 (zWy yJ0_length_8abf5 cJ0_length_8abf5 1 (some .int)) (k2_rm 1 20) (va_Pc [.ref (zgo G (i + 1))] (zBs G)) (QcRead (Int32.ofNat (zBl.getD i 0))) 0 0 (fun _ => False) := by
  refine va_MetF (cc := cJ0_length_8abf5) (maxL := 1) (ret := some .int) (by decide +kernel) rfl ?_
  intro p e s m args below meth c s₁ B hml hv
  obtain ⟨rfl, hB⟩ := hv
  have hx := B.exec
  have hb := B.bytes
  have hr := B.returns
  have hts := atoms_spec (ws := zWy yJ0_length_8abf5 cJ0_length_8abf5 1 (some .int)) B.pre
  have hts' : ∀ w ∈ zGW, w.before (([.ref (zgo G (i + 1))] : List Value).toArray) s = true := fun w hw => hts w (List.mem_cons_of_mem _ hw)
  have hown : s.vm.findClass RJ0 = some m.cls := findClass_of_methodNamed B.named
  have hlocks := B.notSynchronized
  have hS4 := zB_S hG hB
  have hl := lv_entry ([.ref (zgo G (i + 1))]) (n := 1) (Nat.le_of_ble_eq_true rfl)
  rw [lg_entry_eq]
  generalize (lg_sl ([.ref (zgo G (i + 1))]) ++ List.replicate (1 - (lg_sl ([.ref (zgo G (i + 1))])).length) Slot.unset).toArray = ls at hl ⊢
  have hl : lv_has ls 1 [(0, .ref (zgo G (i + 1)))] := hl
  obtain ⟨cellT, t1, t2, t3, t4, t5, t6, t7⟩ := (hS4.1 i hi).2.2.2
  refine lv_aload_n hx hb dJ0_length_8abf5_0 rfl (lv_at hl 0 rfl) ?_
  refine vk_getf hx hb (hS4.1 i hi).2.2.1 va_S.rf hown (hts' _ zf_val) (fun _ h => h) dJ0_length_8abf5_1 ?_
  refine W.alen hx hb t1 t2 t5 rfl rfl dJ0_length_8abf5_4 ?_
  refine lv_aload_n hx hb dJ0_length_8abf5_5 rfl (lv_at hl 0 rfl) ?_
  refine W.callR (W.runV (C := RJ0) (As := []) (rest := [.int (Int32.ofNat (zBl.getD i 0))]) ⟨hx, hb, hml, hown, hts'⟩ (zs_coder hG hi) (cwV 0 hts' (zWyV zsc_J0_coder_7d493 zk_cod zsm_J0_coder_7d493 zsl_J0_coder_7d493 zsi_J0_coder_7d493) rfl rfl rfl (by decide +kernel) ⟨Nat.le_of_ble_eq_true rfl, Nat.le_of_ble_eq_true rfl⟩) ⟨zBs_blind, vk_recv hS4 hi (va_S.rf (A := fun q => zgn G ≤ q) (H0 := s.heap)), (zBs_pre hB).2⟩ rfl rfl hl.1 rfl (lv_room (Nat.le_of_ble_eq_true rfl)) dJ0_length_8abf5_6 ⟨Nat.zero_le _, Nat.zero_le _⟩) ?_
  refine lv_ishr hx hb dJ0_length_8abf5_9 ?_
  have e : (Int32.ofNat (zBl.getD i 0)) >>> ((0 : Int32) &&& 31) = Int32.ofNat (zBl.getD i 0) := by
    rcases (show i = 0 ∨ i = 1 ∨ i = 2 ∨ i = 3 by omega) with rfl | rfl | rfl | rfl <;> decide +kernel
  rw [e]
  exact W.iret hx hb hr (fun t ht _ => ⟨rfl, ht⟩) (fun q hq => by cases hq) dJ0_length_8abf5_10
set_option maxHeartbeats 4000000 in
theorem zs_pre {G : zGl} {l : Launch} {j n : Int32} {v : Value} (hv1 : v.category = 1) (h0 : ¬ j < 0) (h1 : j < n) : Met l yJ3_checkIndex_8e157 (zWy yJ3_checkIndex_8e157 cJ3_checkIndex_8e157 3 (some .int)) (k2_rm 0 0) (va_Pc [.int j, .int n, v] (zBs G)) (QcRead j) 0 0 (fun _ => False) := by
  refine va_MetF (cc := cJ3_checkIndex_8e157) (maxL := 3) (ret := some .int) (by decide +kernel) rfl ?_
  intro p e s m args below meth c s₁ B hml hv
  obtain ⟨rfl, hB⟩ := hv
  have hx := B.exec
  have hb := B.bytes
  have hr := B.returns
  have hlocks := B.notSynchronized
  have hlen : (lg_sl ([.int j, .int n, v])).length ≤ 3 := by cases v <;> first | exact Nat.le_of_ble_eq_true rfl | (exfalso; simp [Value.category] at hv1; done)
  have hl := lv_entry ([.int j, .int n, v]) (n := 3) hlen
  rw [lg_entry_eq]
  generalize (lg_sl ([.int j, .int n, v]) ++ List.replicate (3 - (lg_sl ([.int j, .int n, v])).length) Slot.unset).toArray = ls at hl ⊢
  have e0 : ls[0]? = some (.val (.int j)) := hl.2.2 (0, .int j) (by simp [lv_args])
  have e1 : ls[1]? = some (.val (.int n)) := hl.2.2 (1, .int n) (by simp [lv_args, Value.category])
  refine lv_iload_n hx hb dJ3_checkIndex_8e157_0 rfl e0 ?_
  refine lv_if_lt (tgt := 9) hx hb dJ3_checkIndex_8e157_1 (by decide) (fun q => absurd q h0) (fun _ => ?_)
  refine lv_iload_n hx hb dJ3_checkIndex_8e157_4 rfl e0 ?_
  refine lv_iload_n hx hb dJ3_checkIndex_8e157_5 rfl e1 ?_
  refine lv_icmp_lt (tgt := 16) hx hb dJ3_checkIndex_8e157_6 (by decide) (fun _ => ?_) (fun q => absurd h1 q)
  refine lv_iload_n hx hb dJ3_checkIndex_8e157_16 rfl e0 ?_
  exact W.iret hx hb hr (fun t ht _ => ⟨rfl, ht⟩) (fun q hq => by cases hq) dJ3_checkIndex_8e157_17
set_option maxHeartbeats 4000000 in
theorem zs_chk {G : zGl} {l : Launch} (hG : zGok G) {j n : Int32} (h0 : ¬ j < 0) (h1 : j < n) : Met l yJ0_checkIndex_df160 (zWy yJ0_checkIndex_df160 cJ0_checkIndex_df160 2 none) (k2_rm 1 22) (va_Pc [.int j, .int n] (zBs G)) (fun _ st o t => o = .returned none ∧ t.heap = st.heap) 0 0 (fun _ => False) := by
  refine va_MetF (cc := cJ0_checkIndex_df160) (maxL := 2) (ret := none) (by decide +kernel) rfl ?_
  intro p e s m args below meth c s₁ B hml hv
  obtain ⟨rfl, hB⟩ := hv
  have hx := B.exec
  have hb := B.bytes
  have hr := B.returns
  have hts := atoms_spec (ws := zWy yJ0_checkIndex_df160 cJ0_checkIndex_df160 2 none) B.pre
  have hts' : ∀ w ∈ zGW, w.before (([.int j, .int n] : List Value).toArray) s = true := fun w hw => hts w (List.mem_cons_of_mem _ hw)
  have hown : s.vm.findClass RJ0 = some m.cls := findClass_of_methodNamed B.named
  have hlocks := B.notSynchronized
  have hl := lv_entry ([.int j, .int n]) (n := 2) (Nat.le_of_ble_eq_true rfl)
  rw [lg_entry_eq]
  generalize (lg_sl ([.int j, .int n]) ++ List.replicate (2 - (lg_sl ([.int j, .int n])).length) Slot.unset).toArray = ls at hl ⊢
  have hl : lv_has ls 2 [(0, .int j), (1, .int n)] := hl
  have key : ∀ v : Value, v.category = 1 → va_Z "jdk/internal/util/Preconditions" "SIOOBE_FORMATTER" "Ljava/util/function/BiFunction;" v (fun q => zgn G ≤ q) s s.heap → W p l e (headSpec (zWy yJ0_checkIndex_df160 cJ0_checkIndex_df160 2 none) (k2_rm 1 22)).room s m ([.int j, .int n] : List Value).toArray below meth c s.heap [] 0 0 (MQ below (fun _ st o t => o = .returned none ∧ t.heap = st.heap) ([.int j, .int n] : List Value).toArray s 0 0 (fun _ => False)) (F0 m 0 ls []) := by
    intro v hv1 hZ
    refine lv_iload_n hx hb dJ0_checkIndex_df160_0 rfl (lv_at hl 0 rfl) ?_
    refine lv_iload_n hx hb dJ0_checkIndex_df160_1 rfl (lv_at hl 1 rfl) ?_
    refine va_gets hx hb hZ va_S.rf hown (hts' _ zf_sio) (fun _ h => h) dJ0_checkIndex_df160_2 ?_
    refine W.callR (W.runS (As := [.int j, .int n, v]) (rest := []) ⟨hx, hb, hml, hown, hts'⟩ (zs_pre hv1 h0 h1) ⟨callB_of 3 hts' (zWy_good zsc_J3_checkIndex_8e157) rfl rfl rfl (hts' _ zsi_J3_checkIndex_8e157) (hts' _ zk_pre) (by decide +kernel) ⟨Nat.le_of_ble_eq_true rfl, Nat.le_of_ble_eq_true rfl⟩, hts' _ zss_J3_checkIndex_8e157⟩ (zBs_pre hB) rfl rfl hl.1 rfl (lv_room (Nat.le_of_ble_eq_true rfl)) dJ0_checkIndex_df160_5 ⟨Nat.zero_le _, Nat.zero_le _⟩) ?_
    refine lv_pop hx hb dJ0_checkIndex_df160_8 rfl ?_
    exact W.vret hx hb hr (fun t ht _ => ⟨rfl, ht⟩) (fun q hq => by cases hq) dJ0_checkIndex_df160_9
  rcases zB_Q hG hB with hZ | ⟨t, hZ⟩
  · exact key _ rfl hZ
  · exact key _ rfl hZ
def zCh (i : Nat) (j : Int32) : Int32 := ((((zBb.getD i []).getD j.toNatClampNeg 0) &&& 255).toUInt32 % 65536).toInt32
theorem zCh_all : ∀ i, i < 4 → ∀ n, n < zBl.getD i 0 → narrow .char (.int ((((zBb.getD i []).getD n 0) &&& 255).toUInt32 % 65536).toInt32) = .int ((((zBb.getD i []).getD n 0) &&& 255).toUInt32 % 65536).toInt32 ∧ ((((zBb.getD i []).getD n 0) &&& 255).toUInt32 % 65536).toInt32 = Int32.ofNat ((zTx (i + 1)).getD n 0) := by decide +kernel
theorem zCh_narrow {i : Nat} (hi : i < 4) {j : Int32} (hj : zIn j (zBl.getD i 0)) : narrow .char (.int (zCh i j)) = .int (zCh i j) := (zCh_all i hi _ hj.2).1
theorem zBl_len : ∀ i, i < 4 → (zTx (i + 1)).length = zBl.getD i 0 := by decide +kernel
theorem zTx_some {o : Nat} (h : ¬ zTx o = []) : ∃ i, i < 4 ∧ o = i + 1 := by
  unfold zTx at h
  split at h
  · exact ⟨0, by decide, rfl⟩
  · exact ⟨1, by decide, rfl⟩
  · exact ⟨2, by decide, rfl⟩
  · exact ⟨3, by decide, rfl⟩
  · exact absurd rfl h
set_option maxHeartbeats 4000000 in
theorem zs_lch {G : zGl} {l : Launch} (hG : zGok G) {i : Nat} (hi : i < 4) {j : Int32} (hj : zIn j (zBl.getD i 0)) : Met l yJ1_charAt_3b067 (zWy yJ1_charAt_3b067 cJ1_charAt_3b067 2 (some .char)) (k2_rm 2 43) (va_Pc [.ref (zgo G (100 + i)), .int j] (zBs G)) (QcRead (zCh i j)) 0 0 (fun _ => False) := by
  refine va_MetF (cc := cJ1_charAt_3b067) (maxL := 2) (ret := some .char) (by decide +kernel) rfl ?_
  intro p e s m args below meth c s₁ B hml hv
  obtain ⟨rfl, hB⟩ := hv
  have hx := B.exec
  have hb := B.bytes
  have hr := B.returns
  have hts := atoms_spec (ws := zWy yJ1_charAt_3b067 cJ1_charAt_3b067 2 (some .char)) B.pre
  have hts' : ∀ w ∈ zGW, w.before (([.ref (zgo G (100 + i)), .int j] : List Value).toArray) s = true := fun w hw => hts w (List.mem_cons_of_mem _ hw)
  have hown : s.vm.findClass RJ1 = some m.cls := findClass_of_methodNamed B.named
  have hlocks := B.notSynchronized
  have hl := lv_entry ([.ref (zgo G (100 + i)), .int j]) (n := 2) (Nat.le_of_ble_eq_true rfl)
  rw [lg_entry_eq]
  generalize (lg_sl ([.ref (zgo G (100 + i)), .int j]) ++ List.replicate (2 - (lg_sl ([.ref (zgo G (100 + i)), .int j])).length) Slot.unset).toArray = ls at hl ⊢
  have hl : lv_has ls 2 [(0, .ref (zgo G (100 + i))), (1, .int j)] := hl
  obtain ⟨cellT, t1, t2, t3, t4, t5, t6, t7⟩ := ((zB_S hG hB).1 i hi).2.2.2
  have hlt : j < Int32.ofNat (zBl.getD i 0) := by
    have h1 := hj.2
    have hn : zBl.getD i 0 < 10 := by rcases (show i = 0 ∨ i = 1 ∨ i = 2 ∨ i = 3 by omega) with rfl | rfl | rfl | rfl <;> decide
    rw [Int32.lt_iff_toInt_lt, Int32.toInt_ofNat_of_lt (by omega)]
    have h2 : (j.toNatClampNeg : Int) = j.toInt := by
      have := Int32.not_lt.mp hj.1
      have h0 : (0 : Int) ≤ j.toInt := by simpa using Int32.le_iff_toInt_le.mp this
      show ((j.toInt.toNat : Nat) : Int) = _
      omega
    omega
  refine lv_iload_n hx hb dJ1_charAt_3b067_0 rfl (lv_at hl 1 rfl) ?_
  refine lv_aload_n hx hb dJ1_charAt_3b067_1 rfl (lv_at hl 0 rfl) ?_
  refine W.alen hx hb t1 t2 t5 rfl rfl dJ1_charAt_3b067_2 ?_
  have hrun := va_runS (meth := meth) (R := (headSpec (zWy yJ1_charAt_3b067 cJ1_charAt_3b067 2 (some .char)) (k2_rm 2 43)).room) (As := [.int j, .int (Int32.ofNat (zBl.getD i 0))]) (rest := []) (H := s.heap) (locs := []) (cells := 0) (slots := 0) (e := e) (below := below) (g := F0 m 3 ls [.int (Int32.ofNat (zBl.getD i 0)), .int j]) ⟨hx, hb, hml, hown, hts'⟩ (zs_chk (l := l) hG hj.1 hlt) ⟨callB_of 2 hts' (zWy_good zsc_J0_checkIndex_df160) rfl rfl rfl (hts' _ zsi_J0_checkIndex_df160) (hts' _ zk_chk) (by decide +kernel) ⟨Nat.le_of_ble_eq_true rfl, Nat.le_of_ble_eq_true rfl⟩, hts' _ zss_J0_checkIndex_df160⟩ (zBs_pre hB) rfl rfl hl.1 rfl (lv_room (Nat.le_of_ble_eq_true rfl)) dJ1_charAt_3b067_3 ⟨Nat.zero_le _, Nat.zero_le _⟩
  intro T hT X
  obtain ⟨v0, st₀, t, T', L, h0, X', hL, e1, e2, ⟨hv, hh⟩, st⟩ := hrun T hT X
  have hv2 : v0 = none := by injection hv
  subst hv2
  have X2 := Stand.forget (locs := []) X' (fun q h => (hL q h).elim)
  have kk : W p l e (headSpec (zWy yJ1_charAt_3b067 cJ1_charAt_3b067 2 (some .char)) (k2_rm 2 43)).room s m ([.ref (zgo G (100 + i)), .int j] : List Value).toArray below meth c s.heap [] 0 0 (MQ below (QcRead (zCh i j)) ([.ref (zgo G (100 + i)), .int j] : List Value).toArray s 0 0 (fun _ => False)) (F0 m 6 ls []) := by
    refine lv_aload_n hx hb dJ1_charAt_3b067_6 rfl (lv_at hl 0 rfl) ?_
    refine lv_iload_n hx hb dJ1_charAt_3b067_7 rfl (lv_at hl 1 rfl) ?_
    refine W.bald hx hb t1 t2 t3 (by rintro (q | q); exact hj.1 q; exact absurd (Nat.lt_of_lt_of_le hj.2 t4) (Nat.not_lt.mpr q)) (t6 _ hj.2) rfl rfl dJ1_charAt_3b067_8 ?_
    refine lv_sipush (v := 255) hx hb dJ1_charAt_3b067_9 (by decide) ?_
    refine lv_iand hx hb dJ1_charAt_3b067_12 ?_
    refine lv_i2c (v := zCh i j) hx hb dJ1_charAt_3b067_13 rfl ?_
    exact W.zret hx hb hr (zCh_narrow hi hj) (fun t ht _ => ⟨rfl, ht⟩) (fun q hq => by cases hq) dJ1_charAt_3b067_14
  obtain ⟨t2', a1, b1⟩ := kk T' (by rw [e1, hh, h0]) X2
  exact ⟨t2', st t2' a1, b1⟩
set_option maxHeartbeats 4000000 in
theorem zs_chr {G : zGl} {l : Launch} (hG : zGok G) {i : Nat} (hi : i < 4) {j : Int32} (hj : zIn j (zBl.getD i 0)) : Met l yJ0_charAt_5068e (zWy yJ0_charAt_5068e cJ0_charAt_5068e 2 (some .char)) (k2_rm 3 64) (va_Pc [.ref (zgo G (i + 1)), .int j] (zBs G)) (QcRead (zCh i j)) 0 0 (fun _ => False) := by
  refine va_MetF (cc := cJ0_charAt_5068e) (maxL := 2) (ret := some .char) (by decide +kernel) rfl ?_
  intro p e s m args below meth c s₁ B hml hv
  obtain ⟨rfl, hB⟩ := hv
  have hx := B.exec
  have hb := B.bytes
  have hr := B.returns
  have hts := atoms_spec (ws := zWy yJ0_charAt_5068e cJ0_charAt_5068e 2 (some .char)) B.pre
  have hts' : ∀ w ∈ zGW, w.before (([.ref (zgo G (i + 1)), .int j] : List Value).toArray) s = true := fun w hw => hts w (List.mem_cons_of_mem _ hw)
  have hown : s.vm.findClass RJ0 = some m.cls := findClass_of_methodNamed B.named
  have hlocks := B.notSynchronized
  have hS4 := zB_S hG hB
  have hl := lv_entry ([.ref (zgo G (i + 1)), .int j]) (n := 2) (Nat.le_of_ble_eq_true rfl)
  rw [lg_entry_eq]
  generalize (lg_sl ([.ref (zgo G (i + 1)), .int j]) ++ List.replicate (2 - (lg_sl ([.ref (zgo G (i + 1)), .int j])).length) Slot.unset).toArray = ls at hl ⊢
  have hl : lv_has ls 2 [(0, .ref (zgo G (i + 1))), (1, .int j)] := hl
  refine lv_aload_n hx hb dJ0_charAt_5068e_0 rfl (lv_at hl 0 rfl) ?_
  refine W.callR (W.runV (C := RJ0) (As := []) (rest := []) ⟨hx, hb, hml, hown, hts'⟩ (zs_lat hG hi) (cwV 0 hts' (zWyV zsc_J0_isLatin1_aae02 zk_lat zsm_J0_isLatin1_aae02 zsl_J0_isLatin1_aae02 zsi_J0_isLatin1_aae02) rfl rfl rfl (by decide +kernel) ⟨Nat.le_of_ble_eq_true rfl, Nat.le_of_ble_eq_true rfl⟩) ⟨zBs_blind, vk_recv hS4 hi (va_S.rf (A := fun q => zgn G ≤ q) (H0 := s.heap)), (zBs_pre hB).2⟩ rfl rfl hl.1 rfl (lv_room (Nat.le_of_ble_eq_true rfl)) dJ0_charAt_5068e_1 ⟨Nat.zero_le _, Nat.zero_le _⟩) ?_
  refine W.eq (g2 := F0 m 4 ls [.int 1]) rfl ?_
  refine lv_if_eq (tgt := 16) hx hb dJ0_charAt_5068e_4 (by decide) (fun q => absurd q (by decide)) (fun _ => ?_)
  refine lv_aload_n hx hb dJ0_charAt_5068e_7 rfl (lv_at hl 0 rfl) ?_
  refine vk_getf hx hb (hS4.1 i hi).2.2.1 va_S.rf hown (hts' _ zf_val) (fun _ h => h) dJ0_charAt_5068e_8 ?_
  refine lv_iload_n hx hb dJ0_charAt_5068e_11 rfl (lv_at hl 1 rfl) ?_
  refine W.callR (W.runS (As := [.ref (zgo G (100 + i)), .int j]) (rest := []) ⟨hx, hb, hml, hown, hts'⟩ (zs_lch hG hi hj) ⟨callB_of 2 hts' (zWy_good zsc_J1_charAt_3b067) rfl rfl rfl (hts' _ zsi_J1_charAt_3b067) (hts' _ zk_lch) (by decide +kernel) ⟨Nat.le_of_ble_eq_true rfl, Nat.le_of_ble_eq_true rfl⟩, hts' _ zss_J1_charAt_3b067⟩ (zBs_pre hB) rfl rfl hl.1 rfl (lv_room (Nat.le_of_ble_eq_true rfl)) dJ0_charAt_5068e_12 ⟨Nat.zero_le _, Nat.zero_le _⟩) ?_
  refine W.eq (g2 := F0 m 15 ls [.int (zCh i j)]) rfl ?_
  exact W.zret hx hb hr (zCh_narrow hi hj) (fun t ht _ => ⟨rfl, ht⟩) (fun q hq => by cases hq) dJ0_charAt_5068e_15

theorem zStr_all {G : zGl} {l : Launch} : zStrAll G l := by
  intro p e R s m args below meth c r B Qm cx
  obtain ⟨hx, hb, hml, ⟨O, hO, hown⟩, hts, -, -, -, -, -, hE, hG⟩ := id cx
  have pre : ∀ {H : Heap} {as : List Value}, (∀ q, q < zgn G → H[q]? = (zgH G)[q]?) → zgn G ≤ H.size → ∀ U : State, U.heap = H → s.WarmedH U.vm → va_Pc as (zBs G) as.toArray U := fun h1 h2 U hU hW => ⟨rfl, by rw [hU]; exact h1, by rw [hU]; exact h2, zEv_warm hW hE⟩
  have recv : ∀ {H : Heap} {i : Nat}, i < 4 → (∀ q, q < zgn G → H[q]? = (zgH G)[q]?) → ∃ cell : Cell, H[zgo G (i + 1)]? = some cell ∧ cell.vm.isStatics = false ∧ s.vm.findClass RJ0 = some cell.cls := by
    intro H i hi h1
    obtain ⟨cell, c1, c2, c3, -⟩ := (hE.2.2.2.2.2.1.1 i hi).1
    exact ⟨cell, by rw [h1 _ (hG.2 (i + 1) (by omega))]; exact c1, c2, c3⟩
  have hro : ∀ {i : Nat}, i < 4 → zRo G (i + 1) = zgo G (i + 1) := fun hi => if_pos (by omega)
  have sums : ∀ rest : List Value, rest.length ≤ 4 → (rest.map fun v => v.category).sum ≤ 8 := by
    intro rest h
    have h2 : ∀ l : List Value, (l.map fun v => v.category).sum ≤ 2 * l.length := by
      intro l
      induction l with
      | nil => simp
      | cons v l ih =>
        have hv : v.category ≤ 2 := by rcases lv_cat v with h | h <;> omega
        simp only [List.map_cons, List.sum_cons, List.length_cons]
        omega
    have := h2 rest
    omega
  constructor
  · intro pc o rest H locs cells slots LS hd h6 hF hW hne h1 h2 hl hLS hlen hcap1 hcap2 kk
    obtain ⟨i, hi, rfl⟩ := zTx_some hne
    have hO6 : O = RX6 := by rw [h6] at hO; exact (Option.some.inj hO).symm
    subst hO6
    rw [hro hi]
    have kk := kk locs hl
    rw [zBl_len i hi] at kk
    exact W.callR (W.runV (C := RJ0) (As := []) (rest := rest) ⟨hx, hb, hml, hown, hts⟩ (zs_len hG hi) (cwV 0 hts (zWyV zsc_J0_length_8abf5 zk_len zsm_J0_length_8abf5 zsl_J0_length_8abf5 zsi_J0_length_8abf5) rfl rfl rfl (by decide +kernel) ⟨by show 1 + 1 ≤ _; omega, by show 8 + (1 + 11) + 20 ≤ _; omega⟩) ⟨zBs_blind, recv hi h1, pre h1 h2⟩ rfl rfl hLS rfl (lv_room (sums rest hlen)) hd ⟨by rw [Nat.add_zero]; exact hcap1, by rw [Nat.add_zero]; exact hcap2⟩) kk
  · intro pc o j rest H locs cells slots LS hd h6 hF hW hin h1 h2 hl hLS hlen hcap1 hcap2 kk
    have hne : ¬ zTx o = [] := fun q => by rw [q] at hin; exact absurd hin.2 (Nat.not_lt_zero _)
    obtain ⟨i, hi, rfl⟩ := zTx_some hne
    have hO6 : O = RX6 := by rw [h6] at hO; exact (Option.some.inj hO).symm
    subst hO6
    rw [hro hi]
    rw [zBl_len i hi] at hin
    have kk := kk locs hl
    rw [← (zCh_all i hi _ hin.2).2] at kk
    exact W.callR (W.runV (C := RJ0) (As := [.int j]) (rest := rest) ⟨hx, hb, hml, hown, hts⟩ (zs_chr hG hi hin) (cwV 1 hts (zWyV zsc_J0_charAt_5068e zk_chr zsm_J0_charAt_5068e zsl_J0_charAt_5068e zsi_J0_charAt_5068e) rfl rfl rfl (by decide +kernel) ⟨by show 3 + 1 ≤ _; omega, by show 8 + (2 + 11) + 64 ≤ _; omega⟩) ⟨zBs_blind, recv hi h1, pre h1 h2⟩ rfl rfl hLS rfl (lv_room (sums rest hlen)) hd ⟨by rw [Nat.add_zero]; exact hcap1, by rw [Nat.add_zero]; exact hcap2⟩) kk

