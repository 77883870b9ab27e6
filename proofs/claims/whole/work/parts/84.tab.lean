theorem zAll {l : List (Nat × List (Nat × zEnt))} {r : zRec} {B : Nat × Nat} (h : (l.all fun c => c.2.all fun q => zChk r B q.1 q.2) = true) : ∀ pc t, zFd l pc = some t → zChk r B pc t = true := by
  intro pc t ht
  obtain ⟨c, h1, h2⟩ := zFd_mem l ht
  exact List.all_eq_true.mp (List.all_eq_true.mp h c h1) _ h2
def zTok (y : Nat) (r : zRec) : Prop := ∀ pc t, (zT y).1 pc = some t → zChk r (zT y).2.1 pc t = true
def zTok1 (y : Nat) : Prop := ∀ r, zMs[y]? = some r → zTok y r ∧ (zT y).2.2 = zrL r
theorem zk_JInt_bitCount : (zl_JInt_bitCount.all fun c => c.2.all fun q => zChk (({ cls := "java/lang/Integer", name := "bitCount", desc := "(I)I" } : Jvm.MethodName), prog_13_method_49_code, 1, (Option.some Jvm.ClassFile.FieldType.int), 0, 0, 12, 1, 2) (0, 0) q.1 q.2) = true := by decide +kernel
theorem zk1_0 : zTok1 0 := fun r hr => by
  have e : r = (({ cls := "java/lang/Integer", name := "bitCount", desc := "(I)I" } : Jvm.MethodName), prog_13_method_49_code, 1, (Option.some Jvm.ClassFile.FieldType.int), 0, 0, 12, 1, 2) := (Option.some.inj hr).symm
  subst e
  exact ⟨fun pc t h => zAll zk_JInt_bitCount pc t h, rfl⟩
theorem zk_JMath_floorDiv : (zl_JMath_floorDiv.all fun c => c.2.all fun q => zChk (({ cls := "java/lang/Math", name := "floorDiv", desc := "(JJ)J" } : Jvm.MethodName), prog_14_method_49_code, 6, (Option.some Jvm.ClassFile.FieldType.long), 0, 0, 13, 2, 2) (0, 0) q.1 q.2) = true := by decide +kernel
theorem zk1_1 : zTok1 1 := fun r hr => by
  have e : r = (({ cls := "java/lang/Math", name := "floorDiv", desc := "(JJ)J" } : Jvm.MethodName), prog_14_method_49_code, 6, (Option.some Jvm.ClassFile.FieldType.long), 0, 0, 13, 2, 2) := (Option.some.inj hr).symm
  subst e
  exact ⟨fun pc t h => zAll zk_JMath_floorDiv pc t h, rfl⟩
theorem zk_JMath_floorMod : (zl_JMath_floorMod.all fun c => c.2.all fun q => zChk (({ cls := "java/lang/Math", name := "floorMod", desc := "(JJ)J" } : Jvm.MethodName), prog_14_method_52_code, 6, (Option.some Jvm.ClassFile.FieldType.long), 0, 0, 13, 2, 2) (0, 0) q.1 q.2) = true := by decide +kernel
theorem zk1_2 : zTok1 2 := fun r hr => by
  have e : r = (({ cls := "java/lang/Math", name := "floorMod", desc := "(JJ)J" } : Jvm.MethodName), prog_14_method_52_code, 6, (Option.some Jvm.ClassFile.FieldType.long), 0, 0, 13, 2, 2) := (Option.some.inj hr).symm
  subst e
  exact ⟨fun pc t h => zAll zk_JMath_floorMod pc t h, rfl⟩
theorem zk_JArr_fillJ : (zl_JArr_fillJ.all fun c => c.2.all fun q => zChk (({ cls := "java/util/Arrays", name := "fill", desc := "([JJ)V" } : Jvm.MethodName), prog_19_method_101_code, 5, (Option.none : Option Jvm.ClassFile.FieldType), 0, 0, 14, 2, 2) (0, 0) q.1 q.2) = true := by decide +kernel
theorem zk1_3 : zTok1 3 := fun r hr => by
  have e : r = (({ cls := "java/util/Arrays", name := "fill", desc := "([JJ)V" } : Jvm.MethodName), prog_19_method_101_code, 5, (Option.none : Option Jvm.ClassFile.FieldType), 0, 0, 14, 2, 2) := (Option.some.inj hr).symm
  subst e
  exact ⟨fun pc t h => zAll zk_JArr_fillJ pc t h, rfl⟩
theorem zk_JArr_fillI : (zl_JArr_fillI.all fun c => c.2.all fun q => zChk (({ cls := "java/util/Arrays", name := "fill", desc := "([II)V" } : Jvm.MethodName), prog_19_method_103_code, 4, (Option.none : Option Jvm.ClassFile.FieldType), 0, 0, 14, 2, 2) (0, 0) q.1 q.2) = true := by decide +kernel
theorem zk1_4 : zTok1 4 := fun r hr => by
  have e : r = (({ cls := "java/util/Arrays", name := "fill", desc := "([II)V" } : Jvm.MethodName), prog_19_method_103_code, 4, (Option.none : Option Jvm.ClassFile.FieldType), 0, 0, 14, 2, 2) := (Option.some.inj hr).symm
  subst e
  exact ⟨fun pc t h => zAll zk_JArr_fillI pc t h, rfl⟩
theorem zk_Book_init : (zl_Book_init.all fun c => c.2.all fun q => zChk (({ cls := "BeaconLines$Book", name := "<init>", desc := "()V" } : Jvm.MethodName), prog_2_method_1_code, 1, (Option.none : Option Jvm.ClassFile.FieldType), 1, 23, 0, 0, 1) (1, 112) q.1 q.2) = true := by decide +kernel
theorem zk1_5 : zTok1 5 := fun r hr => by
  have e : r = (({ cls := "BeaconLines$Book", name := "<init>", desc := "()V" } : Jvm.MethodName), prog_2_method_1_code, 1, (Option.none : Option Jvm.ClassFile.FieldType), 1, 23, 0, 0, 1) := (Option.some.inj hr).symm
  subst e
  exact ⟨fun pc t h => zAll zk_Book_init pc t h, rfl⟩
theorem zk_Book_hasClock : (zl_Book_hasClock.all fun c => c.2.all fun q => zChk (({ cls := "BeaconLines$Book", name := "hasClock", desc := "(I)Z" } : Jvm.MethodName), prog_2_method_2_code, 2, (Option.some Jvm.ClassFile.FieldType.boolean), 0, 0, 0, 1, 0) (0, 0) q.1 q.2) = true := by decide +kernel
theorem zk1_6 : zTok1 6 := fun r hr => by
  have e : r = (({ cls := "BeaconLines$Book", name := "hasClock", desc := "(I)Z" } : Jvm.MethodName), prog_2_method_2_code, 2, (Option.some Jvm.ClassFile.FieldType.boolean), 0, 0, 0, 1, 0) := (Option.some.inj hr).symm
  subst e
  exact ⟨fun pc t h => zAll zk_Book_hasClock pc t h, rfl⟩
theorem zk_Book_stampAt : (zl_Book_stampAt.all fun c => c.2.all fun q => zChk (({ cls := "BeaconLines$Book", name := "stampAt", desc := "(II)I" } : Jvm.MethodName), prog_2_method_3_code, 3, (Option.some Jvm.ClassFile.FieldType.int), 0, 0, 0, 2, 0) (0, 0) q.1 q.2) = true := by decide +kernel
theorem zk1_7 : zTok1 7 := fun r hr => by
  have e : r = (({ cls := "BeaconLines$Book", name := "stampAt", desc := "(II)I" } : Jvm.MethodName), prog_2_method_3_code, 3, (Option.some Jvm.ClassFile.FieldType.int), 0, 0, 0, 2, 0) := (Option.some.inj hr).symm
  subst e
  exact ⟨fun pc t h => zAll zk_Book_stampAt pc t h, rfl⟩
theorem zk_Book_putStamp : (zl_Book_putStamp.all fun c => c.2.all fun q => zChk (({ cls := "BeaconLines$Book", name := "putStamp", desc := "(III)V" } : Jvm.MethodName), prog_2_method_4_code, 4, (Option.none : Option Jvm.ClassFile.FieldType), 0, 0, 0, 3, 0) (0, 0) q.1 q.2) = true := by decide +kernel
theorem zk1_8 : zTok1 8 := fun r hr => by
  have e : r = (({ cls := "BeaconLines$Book", name := "putStamp", desc := "(III)V" } : Jvm.MethodName), prog_2_method_4_code, 4, (Option.none : Option Jvm.ClassFile.FieldType), 0, 0, 0, 3, 0) := (Option.some.inj hr).symm
  subst e
  exact ⟨fun pc t h => zAll zk_Book_putStamp pc t h, rfl⟩
theorem zk_Book_startWith : (zl_Book_startWith.all fun c => c.2.all fun q => zChk (({ cls := "BeaconLines$Book", name := "startWith", desc := "(I)V" } : Jvm.MethodName), prog_2_method_5_code, 2, (Option.none : Option Jvm.ClassFile.FieldType), 1, 23, 0, 1, 0) (0, 0) q.1 q.2) = true := by decide +kernel
theorem zk1_9 : zTok1 9 := fun r hr => by
  have e : r = (({ cls := "BeaconLines$Book", name := "startWith", desc := "(I)V" } : Jvm.MethodName), prog_2_method_5_code, 2, (Option.none : Option Jvm.ClassFile.FieldType), 1, 23, 0, 1, 0) := (Option.some.inj hr).symm
  subst e
  exact ⟨fun pc t h => zAll zk_Book_startWith pc t h, rfl⟩
theorem zk_Book_copyFrom : (zl_Book_copyFrom.all fun c => c.2.all fun q => zChk (({ cls := "BeaconLines$Book", name := "copyFrom", desc := "(LBeaconLines$Book;)V" } : Jvm.MethodName), prog_2_method_6_code, 2, (Option.none : Option Jvm.ClassFile.FieldType), 1, 48, 0, 1, 0) (0, 0) q.1 q.2) = true := by decide +kernel
theorem zk1_10 : zTok1 10 := fun r hr => by
  have e : r = (({ cls := "BeaconLines$Book", name := "copyFrom", desc := "(LBeaconLines$Book;)V" } : Jvm.MethodName), prog_2_method_6_code, 2, (Option.none : Option Jvm.ClassFile.FieldType), 1, 48, 0, 1, 0) := (Option.some.inj hr).symm
  subst e
  exact ⟨fun pc t h => zAll zk_Book_copyFrom pc t h, rfl⟩
theorem zk_Book_stampsOf : (zl_Book_stampsOf.all fun c => c.2.all fun q => zChk (({ cls := "BeaconLines$Book", name := "stampsOf", desc := "(I)I" } : Jvm.MethodName), prog_2_method_7_code, 4, (Option.some Jvm.ClassFile.FieldType.int), 1, 22, 0, 1, 0) (0, 0) q.1 q.2) = true := by decide +kernel
theorem zk1_11 : zTok1 11 := fun r hr => by
  have e : r = (({ cls := "BeaconLines$Book", name := "stampsOf", desc := "(I)I" } : Jvm.MethodName), prog_2_method_7_code, 4, (Option.some Jvm.ClassFile.FieldType.int), 1, 22, 0, 1, 0) := (Option.some.inj hr).symm
  subst e
  exact ⟨fun pc t h => zAll zk_Book_stampsOf pc t h, rfl⟩
theorem zk_Book_allStamps : (zl_Book_allStamps.all fun c => c.2.all fun q => zChk (({ cls := "BeaconLines$Book", name := "allStamps", desc := "()I" } : Jvm.MethodName), prog_2_method_8_code, 3, (Option.some Jvm.ClassFile.FieldType.int), 2, 45, 0, 0, 0) (0, 0) q.1 q.2) = true := by decide +kernel
theorem zk1_12 : zTok1 12 := fun r hr => by
  have e : r = (({ cls := "BeaconLines$Book", name := "allStamps", desc := "()I" } : Jvm.MethodName), prog_2_method_8_code, 3, (Option.some Jvm.ClassFile.FieldType.int), 2, 45, 0, 0, 0) := (Option.some.inj hr).symm
  subst e
  exact ⟨fun pc t h => zAll zk_Book_allStamps pc t h, rfl⟩
theorem zk_Book_unheardBeacons : (zl_Book_unheardBeacons.all fun c => c.2.all fun q => zChk (({ cls := "BeaconLines$Book", name := "unheardBeacons", desc := "()I" } : Jvm.MethodName), prog_2_method_9_code, 3, (Option.some Jvm.ClassFile.FieldType.int), 2, 44, 0, 0, 0) (0, 0) q.1 q.2) = true := by decide +kernel
theorem zk1_13 : zTok1 13 := fun r hr => by
  have e : r = (({ cls := "BeaconLines$Book", name := "unheardBeacons", desc := "()I" } : Jvm.MethodName), prog_2_method_9_code, 3, (Option.some Jvm.ClassFile.FieldType.int), 2, 44, 0, 0, 0) := (Option.some.inj hr).symm
  subst e
  exact ⟨fun pc t h => zAll zk_Book_unheardBeacons pc t h, rfl⟩
theorem zk_Book_isHeard : (zl_Book_isHeard.all fun c => c.2.all fun q => zChk (({ cls := "BeaconLines$Book", name := "isHeard", desc := "(I)Z" } : Jvm.MethodName), prog_2_method_10_code, 3, (Option.some Jvm.ClassFile.FieldType.boolean), 1, 22, 0, 1, 0) (0, 0) q.1 q.2) = true := by decide +kernel
theorem zk1_14 : zTok1 14 := fun r hr => by
  have e : r = (({ cls := "BeaconLines$Book", name := "isHeard", desc := "(I)Z" } : Jvm.MethodName), prog_2_method_10_code, 3, (Option.some Jvm.ClassFile.FieldType.boolean), 1, 22, 0, 1, 0) := (Option.some.inj hr).symm
  subst e
  exact ⟨fun pc t h => zAll zk_Book_isHeard pc t h, rfl⟩
theorem zk_Book_heardByBoth : (zl_Book_heardByBoth.all fun c => c.2.all fun q => zChk (({ cls := "BeaconLines$Book", name := "heardByBoth", desc := "(II)I" } : Jvm.MethodName), prog_2_method_11_code, 5, (Option.some Jvm.ClassFile.FieldType.int), 1, 22, 0, 2, 0) (0, 0) q.1 q.2) = true := by decide +kernel
theorem zk1_15 : zTok1 15 := fun r hr => by
  have e : r = (({ cls := "BeaconLines$Book", name := "heardByBoth", desc := "(II)I" } : Jvm.MethodName), prog_2_method_11_code, 5, (Option.some Jvm.ClassFile.FieldType.int), 1, 22, 0, 2, 0) := (Option.some.inj hr).symm
  subst e
  exact ⟨fun pc t h => zAll zk_Book_heardByBoth pc t h, rfl⟩
theorem zk_Book_canMove : (zl_Book_canMove.all fun c => c.2.all fun q => zChk (({ cls := "BeaconLines$Book", name := "canMove", desc := "(II)Z" } : Jvm.MethodName), prog_2_method_12_code, 5, (Option.some Jvm.ClassFile.FieldType.boolean), 1, 22, 0, 2, 0) (0, 0) q.1 q.2) = true := by decide +kernel
theorem zk1_16 : zTok1 16 := fun r hr => by
  have e : r = (({ cls := "BeaconLines$Book", name := "canMove", desc := "(II)Z" } : Jvm.MethodName), prog_2_method_12_code, 5, (Option.some Jvm.ClassFile.FieldType.boolean), 1, 22, 0, 2, 0) := (Option.some.inj hr).symm
  subst e
  exact ⟨fun pc t h => zAll zk_Book_canMove pc t h, rfl⟩
theorem zk_Book_moveStamps : (zl_Book_moveStamps.all fun c => c.2.all fun q => zChk (({ cls := "BeaconLines$Book", name := "moveStamps", desc := "(II)I" } : Jvm.MethodName), prog_2_method_13_code, 6, (Option.some Jvm.ClassFile.FieldType.int), 1, 23, 0, 2, 0) (0, 0) q.1 q.2) = true := by decide +kernel
theorem zk1_17 : zTok1 17 := fun r hr => by
  have e : r = (({ cls := "BeaconLines$Book", name := "moveStamps", desc := "(II)I" } : Jvm.MethodName), prog_2_method_13_code, 6, (Option.some Jvm.ClassFile.FieldType.int), 1, 23, 0, 2, 0) := (Option.some.inj hr).symm
  subst e
  exact ⟨fun pc t h => zAll zk_Book_moveStamps pc t h, rfl⟩
theorem zk_Chains_init : (zl_Chains_init.all fun c => c.2.all fun q => zChk (({ cls := "BeaconLines$Chains", name := "<init>", desc := "()V" } : Jvm.MethodName), prog_3_method_1_code, 1, (Option.none : Option Jvm.ClassFile.FieldType), 1, 20, 1, 0, 1) (2, 56) q.1 q.2) = true := by decide +kernel
theorem zk1_18 : zTok1 18 := fun r hr => by
  have e : r = (({ cls := "BeaconLines$Chains", name := "<init>", desc := "()V" } : Jvm.MethodName), prog_3_method_1_code, 1, (Option.none : Option Jvm.ClassFile.FieldType), 1, 20, 1, 0, 1) := (Option.some.inj hr).symm
  subst e
  exact ⟨fun pc t h => zAll zk_Chains_init pc t h, rfl⟩
theorem zk_Chains_renew : (zl_Chains_renew.all fun c => c.2.all fun q => zChk (({ cls := "BeaconLines$Chains", name := "renew", desc := "(LBeaconLines$Web;)V" } : Jvm.MethodName), prog_3_method_2_code, 5, (Option.none : Option Jvm.ClassFile.FieldType), 4, 101, 1, 1, 0) (0, 0) q.1 q.2) = true := by decide +kernel
theorem zk1_19 : zTok1 19 := fun r hr => by
  have e : r = (({ cls := "BeaconLines$Chains", name := "renew", desc := "(LBeaconLines$Web;)V" } : Jvm.MethodName), prog_3_method_2_code, 5, (Option.none : Option Jvm.ClassFile.FieldType), 4, 101, 1, 1, 0) := (Option.some.inj hr).symm
  subst e
  exact ⟨fun pc t h => zAll zk_Chains_renew pc t h, rfl⟩
theorem zk_Chains_weightOf : (zl_Chains_weightOf.all fun c => c.2.all fun q => zChk (({ cls := "BeaconLines$Chains", name := "weightOf", desc := "(LBeaconLines$Line;)I" } : Jvm.MethodName), prog_3_method_3_code, 1, (Option.some Jvm.ClassFile.FieldType.int), 2, 42, 1, 1, 2) (0, 0) q.1 q.2) = true := by decide +kernel
theorem zk1_20 : zTok1 20 := fun r hr => by
  have e : r = (({ cls := "BeaconLines$Chains", name := "weightOf", desc := "(LBeaconLines$Line;)I" } : Jvm.MethodName), prog_3_method_3_code, 1, (Option.some Jvm.ClassFile.FieldType.int), 2, 42, 1, 1, 2) := (Option.some.inj hr).symm
  subst e
  exact ⟨fun pc t h => zAll zk_Chains_weightOf pc t h, rfl⟩
theorem zk_Chains_reachingPairs : (zl_Chains_reachingPairs.all fun c => c.2.all fun q => zChk (({ cls := "BeaconLines$Chains", name := "reachingPairs", desc := "()I" } : Jvm.MethodName), prog_3_method_4_code, 4, (Option.some Jvm.ClassFile.FieldType.int), 3, 71, 1, 0, 0) (0, 0) q.1 q.2) = true := by decide +kernel
theorem zk1_21 : zTok1 21 := fun r hr => by
  have e : r = (({ cls := "BeaconLines$Chains", name := "reachingPairs", desc := "()I" } : Jvm.MethodName), prog_3_method_4_code, 4, (Option.some Jvm.ClassFile.FieldType.int), 3, 71, 1, 0, 0) := (Option.some.inj hr).symm
  subst e
  exact ⟨fun pc t h => zAll zk_Chains_reachingPairs pc t h, rfl⟩
theorem zk_Chains_reachedFrom : (zl_Chains_reachedFrom.all fun c => c.2.all fun q => zChk (({ cls := "BeaconLines$Chains", name := "reachedFrom", desc := "(I)I" } : Jvm.MethodName), prog_3_method_5_code, 4, (Option.some Jvm.ClassFile.FieldType.int), 4, 93, 1, 1, 0) (0, 0) q.1 q.2) = true := by decide +kernel
theorem zk1_22 : zTok1 22 := fun r hr => by
  have e : r = (({ cls := "BeaconLines$Chains", name := "reachedFrom", desc := "(I)I" } : Jvm.MethodName), prog_3_method_5_code, 4, (Option.some Jvm.ClassFile.FieldType.int), 4, 93, 1, 1, 0) := (Option.some.inj hr).symm
  subst e
  exact ⟨fun pc t h => zAll zk_Chains_reachedFrom pc t h, rfl⟩
theorem zk_Chains_reaches : (zl_Chains_reaches.all fun c => c.2.all fun q => zChk (({ cls := "BeaconLines$Chains", name := "reaches", desc := "(II)Z" } : Jvm.MethodName), prog_3_method_6_code, 3, (Option.some Jvm.ClassFile.FieldType.boolean), 3, 71, 1, 2, 0) (0, 0) q.1 q.2) = true := by decide +kernel
theorem zk1_23 : zTok1 23 := fun r hr => by
  have e : r = (({ cls := "BeaconLines$Chains", name := "reaches", desc := "(II)Z" } : Jvm.MethodName), prog_3_method_6_code, 3, (Option.some Jvm.ClassFile.FieldType.boolean), 3, 71, 1, 2, 0) := (Option.some.inj hr).symm
  subst e
  exact ⟨fun pc t h => zAll zk_Chains_reaches pc t h, rfl⟩
theorem zk_Chains_aimAt : (zl_Chains_aimAt.all fun c => c.2.all fun q => zChk (({ cls := "BeaconLines$Chains", name := "aimAt", desc := "(I)V" } : Jvm.MethodName), prog_3_method_7_code, 5, (Option.none : Option Jvm.ClassFile.FieldType), 2, 47, 1, 1, 0) (0, 0) q.1 q.2) = true := by decide +kernel
theorem zk1_24 : zTok1 24 := fun r hr => by
  have e : r = (({ cls := "BeaconLines$Chains", name := "aimAt", desc := "(I)V" } : Jvm.MethodName), prog_3_method_7_code, 5, (Option.none : Option Jvm.ClassFile.FieldType), 2, 47, 1, 1, 0) := (Option.some.inj hr).symm
  subst e
  exact ⟨fun pc t h => zAll zk_Chains_aimAt pc t h, rfl⟩
theorem zk_Chains_improve : (zl_Chains_improve.all fun c => c.2.all fun q => zChk (({ cls := "BeaconLines$Chains", name := "improve", desc := "(I)Z" } : Jvm.MethodName), prog_3_method_8_code, 5, (Option.some Jvm.ClassFile.FieldType.boolean), 1, 23, 1, 1, 0) (0, 0) q.1 q.2) = true := by decide +kernel
theorem zk1_25 : zTok1 25 := fun r hr => by
  have e : r = (({ cls := "BeaconLines$Chains", name := "improve", desc := "(I)Z" } : Jvm.MethodName), prog_3_method_8_code, 5, (Option.some Jvm.ClassFile.FieldType.boolean), 1, 23, 1, 1, 0) := (Option.some.inj hr).symm
  subst e
  exact ⟨fun pc t h => zAll zk_Chains_improve pc t h, rfl⟩
theorem zk_Chains_weightBy : (zl_Chains_weightBy.all fun c => c.2.all fun q => zChk (({ cls := "BeaconLines$Chains", name := "weightBy", desc := "(II)I" } : Jvm.MethodName), prog_3_method_9_code, 4, (Option.some Jvm.ClassFile.FieldType.int), 0, 0, 1, 2, 0) (0, 0) q.1 q.2) = true := by decide +kernel
theorem zk1_26 : zTok1 26 := fun r hr => by
  have e : r = (({ cls := "BeaconLines$Chains", name := "weightBy", desc := "(II)I" } : Jvm.MethodName), prog_3_method_9_code, 4, (Option.some Jvm.ClassFile.FieldType.int), 0, 0, 1, 2, 0) := (Option.some.inj hr).symm
  subst e
  exact ⟨fun pc t h => zAll zk_Chains_weightBy pc t h, rfl⟩
theorem zk_Chains_reachesAim : (zl_Chains_reachesAim.all fun c => c.2.all fun q => zChk (({ cls := "BeaconLines$Chains", name := "reachesAim", desc := "(I)Z" } : Jvm.MethodName), prog_3_method_10_code, 2, (Option.some Jvm.ClassFile.FieldType.boolean), 0, 0, 1, 1, 0) (0, 0) q.1 q.2) = true := by decide +kernel
theorem zk1_27 : zTok1 27 := fun r hr => by
  have e : r = (({ cls := "BeaconLines$Chains", name := "reachesAim", desc := "(I)Z" } : Jvm.MethodName), prog_3_method_10_code, 2, (Option.some Jvm.ClassFile.FieldType.boolean), 0, 0, 1, 1, 0) := (Option.some.inj hr).symm
  subst e
  exact ⟨fun pc t h => zAll zk_Chains_reachesAim pc t h, rfl⟩
theorem zk_Chains_costToAim : (zl_Chains_costToAim.all fun c => c.2.all fun q => zChk (({ cls := "BeaconLines$Chains", name := "costToAim", desc := "(I)I" } : Jvm.MethodName), prog_3_method_11_code, 2, (Option.some Jvm.ClassFile.FieldType.int), 0, 0, 1, 1, 0) (0, 0) q.1 q.2) = true := by decide +kernel
theorem zk1_28 : zTok1 28 := fun r hr => by
  have e : r = (({ cls := "BeaconLines$Chains", name := "costToAim", desc := "(I)I" } : Jvm.MethodName), prog_3_method_11_code, 2, (Option.some Jvm.ClassFile.FieldType.int), 0, 0, 1, 1, 0) := (Option.some.inj hr).symm
  subst e
  exact ⟨fun pc t h => zAll zk_Chains_costToAim pc t h, rfl⟩
theorem zk_Chains_hopsToAim : (zl_Chains_hopsToAim.all fun c => c.2.all fun q => zChk (({ cls := "BeaconLines$Chains", name := "hopsToAim", desc := "(I)I" } : Jvm.MethodName), prog_3_method_12_code, 2, (Option.some Jvm.ClassFile.FieldType.int), 0, 0, 1, 1, 0) (0, 0) q.1 q.2) = true := by decide +kernel
theorem zk1_29 : zTok1 29 := fun r hr => by
  have e : r = (({ cls := "BeaconLines$Chains", name := "hopsToAim", desc := "(I)I" } : Jvm.MethodName), prog_3_method_12_code, 2, (Option.some Jvm.ClassFile.FieldType.int), 0, 0, 1, 1, 0) := (Option.some.inj hr).symm
  subst e
  exact ⟨fun pc t h => zAll zk_Chains_hopsToAim pc t h, rfl⟩
theorem zk_Chains_nextToAim : (zl_Chains_nextToAim.all fun c => c.2.all fun q => zChk (({ cls := "BeaconLines$Chains", name := "nextToAim", desc := "(I)I" } : Jvm.MethodName), prog_3_method_13_code, 3, (Option.some Jvm.ClassFile.FieldType.int), 1, 23, 1, 1, 0) (0, 0) q.1 q.2) = true := by decide +kernel
theorem zk1_30 : zTok1 30 := fun r hr => by
  have e : r = (({ cls := "BeaconLines$Chains", name := "nextToAim", desc := "(I)I" } : Jvm.MethodName), prog_3_method_13_code, 3, (Option.some Jvm.ClassFile.FieldType.int), 1, 23, 1, 1, 0) := (Option.some.inj hr).symm
  subst e
  exact ⟨fun pc t h => zAll zk_Chains_nextToAim pc t h, rfl⟩
theorem zk_Drawer_init : (zl_Drawer_init.all fun c => c.2.all fun q => zChk (({ cls := "BeaconLines$Drawer", name := "<init>", desc := "()V" } : Jvm.MethodName), prog_4_method_1_code, 1, (Option.none : Option Jvm.ClassFile.FieldType), 1, 20, 2, 0, 1) (2, 14) q.1 q.2) = true := by decide +kernel
theorem zk1_31 : zTok1 31 := fun r hr => by
  have e : r = (({ cls := "BeaconLines$Drawer", name := "<init>", desc := "()V" } : Jvm.MethodName), prog_4_method_1_code, 1, (Option.none : Option Jvm.ClassFile.FieldType), 1, 20, 2, 0, 1) := (Option.some.inj hr).symm
  subst e
  exact ⟨fun pc t h => zAll zk_Drawer_init pc t h, rfl⟩
theorem zk_Drawer_fill : (zl_Drawer_fill.all fun c => c.2.all fun q => zChk (({ cls := "BeaconLines$Drawer", name := "fill", desc := "(LBeaconLines$Book;II)V" } : Jvm.MethodName), prog_4_method_2_code, 6, (Option.none : Option Jvm.ClassFile.FieldType), 2, 46, 2, 3, 0) (0, 0) q.1 q.2) = true := by decide +kernel
theorem zk1_32 : zTok1 32 := fun r hr => by
  have e : r = (({ cls := "BeaconLines$Drawer", name := "fill", desc := "(LBeaconLines$Book;II)V" } : Jvm.MethodName), prog_4_method_2_code, 6, (Option.none : Option Jvm.ClassFile.FieldType), 2, 46, 2, 3, 0) := (Option.some.inj hr).symm
  subst e
  exact ⟨fun pc t h => zAll zk_Drawer_fill pc t h, rfl⟩
theorem zk_Drawer_stampBySeed : (zl_Drawer_stampBySeed.all fun c => c.2.all fun q => zChk (({ cls := "BeaconLines$Drawer", name := "stampBySeed", desc := "(II)I" } : Jvm.MethodName), prog_4_method_3_code, 7, (Option.some Jvm.ClassFile.FieldType.int), 1, 20, 2, 2, 0) (0, 0) q.1 q.2) = true := by decide +kernel
theorem zk1_33 : zTok1 33 := fun r hr => by
  have e : r = (({ cls := "BeaconLines$Drawer", name := "stampBySeed", desc := "(II)I" } : Jvm.MethodName), prog_4_method_3_code, 7, (Option.some Jvm.ClassFile.FieldType.int), 1, 20, 2, 2, 0) := (Option.some.inj hr).symm
  subst e
  exact ⟨fun pc t h => zAll zk_Drawer_stampBySeed pc t h, rfl⟩
theorem zk_Drawer_next : (zl_Drawer_next.all fun c => c.2.all fun q => zChk (({ cls := "BeaconLines$Drawer", name := "next", desc := "()I" } : Jvm.MethodName), prog_4_method_4_code, 1, (Option.some Jvm.ClassFile.FieldType.int), 0, 0, 2, 0, 0) (0, 0) q.1 q.2) = true := by decide +kernel
theorem zk1_34 : zTok1 34 := fun r hr => by
  have e : r = (({ cls := "BeaconLines$Drawer", name := "next", desc := "()I" } : Jvm.MethodName), prog_4_method_4_code, 1, (Option.some Jvm.ClassFile.FieldType.int), 0, 0, 2, 0, 0) := (Option.some.inj hr).symm
  subst e
  exact ⟨fun pc t h => zAll zk_Drawer_next pc t h, rfl⟩
theorem zk_Line_init : (zl_Line_init.all fun c => c.2.all fun q => zChk (({ cls := "BeaconLines$Line", name := "<init>", desc := "()V" } : Jvm.MethodName), prog_5_method_1_code, 1, (Option.none : Option Jvm.ClassFile.FieldType), 1, 20, 3, 0, 1) (1, 16) q.1 q.2) = true := by decide +kernel
theorem zk1_35 : zTok1 35 := fun r hr => by
  have e : r = (({ cls := "BeaconLines$Line", name := "<init>", desc := "()V" } : Jvm.MethodName), prog_5_method_1_code, 1, (Option.none : Option Jvm.ClassFile.FieldType), 1, 20, 3, 0, 1) := (Option.some.inj hr).symm
  subst e
  exact ⟨fun pc t h => zAll zk_Line_init pc t h, rfl⟩
theorem zk_Line_fit : (zl_Line_fit.all fun c => c.2.all fun q => zChk (({ cls := "BeaconLines$Line", name := "fit", desc := "(LBeaconLines$Book;II)V" } : Jvm.MethodName), prog_5_method_2_code, 5, (Option.none : Option Jvm.ClassFile.FieldType), 2, 54, 3, 3, 0) (0, 0) q.1 q.2) = true := by decide +kernel
theorem zk1_36 : zTok1 36 := fun r hr => by
  have e : r = (({ cls := "BeaconLines$Line", name := "fit", desc := "(LBeaconLines$Book;II)V" } : Jvm.MethodName), prog_5_method_2_code, 5, (Option.none : Option Jvm.ClassFile.FieldType), 2, 54, 3, 3, 0) := (Option.some.inj hr).symm
  subst e
  exact ⟨fun pc t h => zAll zk_Line_fit pc t h, rfl⟩
theorem zk_Line_judge : (zl_Line_judge.all fun c => c.2.all fun q => zChk (({ cls := "BeaconLines$Line", name := "judge", desc := "(JI)I" } : Jvm.MethodName), prog_5_method_3_code, 4, (Option.some Jvm.ClassFile.FieldType.int), 0, 0, 3, 2, 0) (0, 0) q.1 q.2) = true := by decide +kernel
theorem zk1_37 : zTok1 37 := fun r hr => by
  have e : r = (({ cls := "BeaconLines$Line", name := "judge", desc := "(JI)I" } : Jvm.MethodName), prog_5_method_3_code, 4, (Option.some Jvm.ClassFile.FieldType.int), 0, 0, 3, 2, 0) := (Option.some.inj hr).symm
  subst e
  exact ⟨fun pc t h => zAll zk_Line_judge pc t h, rfl⟩
theorem zk_Line_strikeFarthest : (zl_Line_strikeFarthest.all fun c => c.2.all fun q => zChk (({ cls := "BeaconLines$Line", name := "strikeFarthest", desc := "()V" } : Jvm.MethodName), prog_5_method_4_code, 1, (Option.none : Option Jvm.ClassFile.FieldType), 0, 0, 3, 0, 0) (0, 0) q.1 q.2) = true := by decide +kernel
theorem zk1_38 : zTok1 38 := fun r hr => by
  have e : r = (({ cls := "BeaconLines$Line", name := "strikeFarthest", desc := "()V" } : Jvm.MethodName), prog_5_method_4_code, 1, (Option.none : Option Jvm.ClassFile.FieldType), 0, 0, 3, 0, 0) := (Option.some.inj hr).symm
  subst e
  exact ⟨fun pc t h => zAll zk_Line_strikeFarthest pc t h, rfl⟩
theorem zk_Line_sumUp : (zl_Line_sumUp.all fun c => c.2.all fun q => zChk (({ cls := "BeaconLines$Line", name := "sumUp", desc := "(LBeaconLines$Book;II)V" } : Jvm.MethodName), prog_5_method_5_code, 13, (Option.none : Option Jvm.ClassFile.FieldType), 1, 22, 3, 3, 0) (0, 0) q.1 q.2) = true := by decide +kernel
theorem zk1_39 : zTok1 39 := fun r hr => by
  have e : r = (({ cls := "BeaconLines$Line", name := "sumUp", desc := "(LBeaconLines$Book;II)V" } : Jvm.MethodName), prog_5_method_5_code, 13, (Option.none : Option Jvm.ClassFile.FieldType), 1, 22, 3, 3, 0) := (Option.some.inj hr).symm
  subst e
  exact ⟨fun pc t h => zAll zk_Line_sumUp pc t h, rfl⟩
theorem zk_Line_findFarthest : (zl_Line_findFarthest.all fun c => c.2.all fun q => zChk (({ cls := "BeaconLines$Line", name := "findFarthest", desc := "(LBeaconLines$Book;II)V" } : Jvm.MethodName), prog_5_method_6_code, 7, (Option.none : Option Jvm.ClassFile.FieldType), 1, 26, 3, 3, 0) (0, 0) q.1 q.2) = true := by decide +kernel
theorem zk1_40 : zTok1 40 := fun r hr => by
  have e : r = (({ cls := "BeaconLines$Line", name := "findFarthest", desc := "(LBeaconLines$Book;II)V" } : Jvm.MethodName), prog_5_method_6_code, 7, (Option.none : Option Jvm.ClassFile.FieldType), 1, 26, 3, 3, 0) := (Option.some.inj hr).symm
  subst e
  exact ⟨fun pc t h => zAll zk_Line_findFarthest pc t h, rfl⟩
theorem zk_Line_isLeft : (zl_Line_isLeft.all fun c => c.2.all fun q => zChk (({ cls := "BeaconLines$Line", name := "isLeft", desc := "(I)Z" } : Jvm.MethodName), prog_5_method_7_code, 2, (Option.some Jvm.ClassFile.FieldType.boolean), 0, 0, 3, 1, 0) (0, 0) q.1 q.2) = true := by decide +kernel
theorem zk1_41 : zTok1 41 := fun r hr => by
  have e : r = (({ cls := "BeaconLines$Line", name := "isLeft", desc := "(I)Z" } : Jvm.MethodName), prog_5_method_7_code, 2, (Option.some Jvm.ClassFile.FieldType.boolean), 0, 0, 3, 1, 0) := (Option.some.inj hr).symm
  subst e
  exact ⟨fun pc t h => zAll zk_Line_isLeft pc t h, rfl⟩
theorem zk_Line_farOf : (zl_Line_farOf.all fun c => c.2.all fun q => zChk (({ cls := "BeaconLines$Line", name := "farOf", desc := "(JJ)J" } : Jvm.MethodName), prog_5_method_8_code, 7, (Option.some Jvm.ClassFile.FieldType.long), 0, 0, 3, 2, 0) (0, 0) q.1 q.2) = true := by decide +kernel
theorem zk1_42 : zTok1 42 := fun r hr => by
  have e : r = (({ cls := "BeaconLines$Line", name := "farOf", desc := "(JJ)J" } : Jvm.MethodName), prog_5_method_8_code, 7, (Option.some Jvm.ClassFile.FieldType.long), 0, 0, 3, 2, 0) := (Option.some.inj hr).symm
  subst e
  exact ⟨fun pc t h => zAll zk_Line_farOf pc t h, rfl⟩
theorem zk_Line_partsUp : (zl_Line_partsUp.all fun c => c.2.all fun q => zChk (({ cls := "BeaconLines$Line", name := "partsUp", desc := "(J)J" } : Jvm.MethodName), prog_5_method_9_code, 3, (Option.some Jvm.ClassFile.FieldType.long), 0, 0, 3, 1, 0) (0, 0) q.1 q.2) = true := by decide +kernel
theorem zk1_43 : zTok1 43 := fun r hr => by
  have e : r = (({ cls := "BeaconLines$Line", name := "partsUp", desc := "(J)J" } : Jvm.MethodName), prog_5_method_9_code, 3, (Option.some Jvm.ClassFile.FieldType.long), 0, 0, 3, 1, 0) := (Option.some.inj hr).symm
  subst e
  exact ⟨fun pc t h => zAll zk_Line_partsUp pc t h, rfl⟩
theorem zk_Line_costOfGood : (zl_Line_costOfGood.all fun c => c.2.all fun q => zChk (({ cls := "BeaconLines$Line", name := "costOfGood", desc := "()I" } : Jvm.MethodName), prog_5_method_10_code, 1, (Option.some Jvm.ClassFile.FieldType.int), 1, 22, 3, 0, 0) (0, 0) q.1 q.2) = true := by decide +kernel
theorem zk1_44 : zTok1 44 := fun r hr => by
  have e : r = (({ cls := "BeaconLines$Line", name := "costOfGood", desc := "()I" } : Jvm.MethodName), prog_5_method_10_code, 1, (Option.some Jvm.ClassFile.FieldType.int), 1, 22, 3, 0, 0) := (Option.some.inj hr).symm
  subst e
  exact ⟨fun pc t h => zAll zk_Line_costOfGood pc t h, rfl⟩
theorem zk_Sheet_init : (zl_Sheet_init.all fun c => c.2.all fun q => zChk (({ cls := "BeaconLines$Sheet", name := "<init>", desc := "()V" } : Jvm.MethodName), prog_6_method_1_code, 1, (Option.none : Option Jvm.ClassFile.FieldType), 1, 20, 4, 0, 1) (1, 48) q.1 q.2) = true := by decide +kernel
theorem zk1_45 : zTok1 45 := fun r hr => by
  have e : r = (({ cls := "BeaconLines$Sheet", name := "<init>", desc := "()V" } : Jvm.MethodName), prog_6_method_1_code, 1, (Option.none : Option Jvm.ClassFile.FieldType), 1, 20, 4, 0, 1) := (Option.some.inj hr).symm
  subst e
  exact ⟨fun pc t h => zAll zk_Sheet_init pc t h, rfl⟩
theorem zk_Sheet_isNothing : (zl_Sheet_isNothing.all fun c => c.2.all fun q => zChk (({ cls := "BeaconLines$Sheet", name := "isNothing", desc := "()Z" } : Jvm.MethodName), prog_6_method_2_code, 1, (Option.some Jvm.ClassFile.FieldType.boolean), 0, 0, 4, 0, 0) (0, 0) q.1 q.2) = true := by decide +kernel
theorem zk1_46 : zTok1 46 := fun r hr => by
  have e : r = (({ cls := "BeaconLines$Sheet", name := "isNothing", desc := "()Z" } : Jvm.MethodName), prog_6_method_2_code, 1, (Option.some Jvm.ClassFile.FieldType.boolean), 0, 0, 4, 0, 0) := (Option.some.inj hr).symm
  subst e
  exact ⟨fun pc t h => zAll zk_Sheet_isNothing pc t h, rfl⟩
theorem zk_Sheet_renew : (zl_Sheet_renew.all fun c => c.2.all fun q => zChk (({ cls := "BeaconLines$Sheet", name := "renew", desc := "(II)V" } : Jvm.MethodName), prog_6_method_3_code, 3, (Option.none : Option Jvm.ClassFile.FieldType), 1, 24, 4, 2, 0) (0, 0) q.1 q.2) = true := by decide +kernel
theorem zk1_47 : zTok1 47 := fun r hr => by
  have e : r = (({ cls := "BeaconLines$Sheet", name := "renew", desc := "(II)V" } : Jvm.MethodName), prog_6_method_3_code, 3, (Option.none : Option Jvm.ClassFile.FieldType), 1, 24, 4, 2, 0) := (Option.some.inj hr).symm
  subst e
  exact ⟨fun pc t h => zAll zk_Sheet_renew pc t h, rfl⟩
theorem zk_Sheet_hasCell : (zl_Sheet_hasCell.all fun c => c.2.all fun q => zChk (({ cls := "BeaconLines$Sheet", name := "hasCell", desc := "(I)Z" } : Jvm.MethodName), prog_6_method_4_code, 2, (Option.some Jvm.ClassFile.FieldType.boolean), 0, 0, 4, 1, 0) (0, 0) q.1 q.2) = true := by decide +kernel
theorem zk1_48 : zTok1 48 := fun r hr => by
  have e : r = (({ cls := "BeaconLines$Sheet", name := "hasCell", desc := "(I)Z" } : Jvm.MethodName), prog_6_method_4_code, 2, (Option.some Jvm.ClassFile.FieldType.boolean), 0, 0, 4, 1, 0) := (Option.some.inj hr).symm
  subst e
  exact ⟨fun pc t h => zAll zk_Sheet_hasCell pc t h, rfl⟩
theorem zk_Sheet_putCell : (zl_Sheet_putCell.all fun c => c.2.all fun q => zChk (({ cls := "BeaconLines$Sheet", name := "putCell", desc := "(II)V" } : Jvm.MethodName), prog_6_method_5_code, 3, (Option.none : Option Jvm.ClassFile.FieldType), 0, 0, 4, 2, 0) (0, 0) q.1 q.2) = true := by decide +kernel
theorem zk1_49 : zTok1 49 := fun r hr => by
  have e : r = (({ cls := "BeaconLines$Sheet", name := "putCell", desc := "(II)V" } : Jvm.MethodName), prog_6_method_5_code, 3, (Option.none : Option Jvm.ClassFile.FieldType), 0, 0, 4, 2, 0) := (Option.some.inj hr).symm
  subst e
  exact ⟨fun pc t h => zAll zk_Sheet_putCell pc t h, rfl⟩
theorem zk_Sheet_firstFault : (zl_Sheet_firstFault.all fun c => c.2.all fun q => zChk (({ cls := "BeaconLines$Sheet", name := "firstFault", desc := "(III)I" } : Jvm.MethodName), prog_6_method_6_code, 5, (Option.some Jvm.ClassFile.FieldType.int), 1, 21, 4, 3, 0) (0, 0) q.1 q.2) = true := by decide +kernel
theorem zk1_50 : zTok1 50 := fun r hr => by
  have e : r = (({ cls := "BeaconLines$Sheet", name := "firstFault", desc := "(III)I" } : Jvm.MethodName), prog_6_method_6_code, 5, (Option.some Jvm.ClassFile.FieldType.int), 1, 21, 4, 3, 0) := (Option.some.inj hr).symm
  subst e
  exact ⟨fun pc t h => zAll zk_Sheet_firstFault pc t h, rfl⟩
theorem zk_Sheet_stampIn : (zl_Sheet_stampIn.all fun c => c.2.all fun q => zChk (({ cls := "BeaconLines$Sheet", name := "stampIn", desc := "(I)I" } : Jvm.MethodName), prog_6_method_7_code, 2, (Option.some Jvm.ClassFile.FieldType.int), 0, 0, 4, 1, 0) (0, 0) q.1 q.2) = true := by decide +kernel
theorem zk1_51 : zTok1 51 := fun r hr => by
  have e : r = (({ cls := "BeaconLines$Sheet", name := "stampIn", desc := "(I)I" } : Jvm.MethodName), prog_6_method_7_code, 2, (Option.some Jvm.ClassFile.FieldType.int), 0, 0, 4, 1, 0) := (Option.some.inj hr).symm
  subst e
  exact ⟨fun pc t h => zAll zk_Sheet_stampIn pc t h, rfl⟩
theorem zk_Tape_init : (zl_Tape_init.all fun c => c.2.all fun q => zChk (({ cls := "BeaconLines$Tape", name := "<init>", desc := "()V" } : Jvm.MethodName), prog_7_method_1_code, 1, (Option.none : Option Jvm.ClassFile.FieldType), 1, 20, 5, 0, 1) (1, 300) q.1 q.2) = true := by decide +kernel
theorem zk1_52 : zTok1 52 := fun r hr => by
  have e : r = (({ cls := "BeaconLines$Tape", name := "<init>", desc := "()V" } : Jvm.MethodName), prog_7_method_1_code, 1, (Option.none : Option Jvm.ClassFile.FieldType), 1, 20, 5, 0, 1) := (Option.some.inj hr).symm
  subst e
  exact ⟨fun pc t h => zAll zk_Tape_init pc t h, rfl⟩
theorem zk_Tape_append : (zl_Tape_append.all fun c => c.2.all fun q => zChk (({ cls := "BeaconLines$Tape", name := "append", desc := "(I)Z" } : Jvm.MethodName), prog_7_method_2_code, 2, (Option.some Jvm.ClassFile.FieldType.boolean), 0, 0, 5, 1, 0) (0, 0) q.1 q.2) = true := by decide +kernel
theorem zk1_53 : zTok1 53 := fun r hr => by
  have e : r = (({ cls := "BeaconLines$Tape", name := "append", desc := "(I)Z" } : Jvm.MethodName), prog_7_method_2_code, 2, (Option.some Jvm.ClassFile.FieldType.boolean), 0, 0, 5, 1, 0) := (Option.some.inj hr).symm
  subst e
  exact ⟨fun pc t h => zAll zk_Tape_append pc t h, rfl⟩
theorem zk_Tape_byteAt : (zl_Tape_byteAt.all fun c => c.2.all fun q => zChk (({ cls := "BeaconLines$Tape", name := "byteAt", desc := "(I)I" } : Jvm.MethodName), prog_7_method_3_code, 2, (Option.some Jvm.ClassFile.FieldType.int), 0, 0, 5, 1, 0) (0, 0) q.1 q.2) = true := by decide +kernel
theorem zk1_54 : zTok1 54 := fun r hr => by
  have e : r = (({ cls := "BeaconLines$Tape", name := "byteAt", desc := "(I)I" } : Jvm.MethodName), prog_7_method_3_code, 2, (Option.some Jvm.ClassFile.FieldType.int), 0, 0, 5, 1, 0) := (Option.some.inj hr).symm
  subst e
  exact ⟨fun pc t h => zAll zk_Tape_byteAt pc t h, rfl⟩
theorem zk_Tape_behindRun : (zl_Tape_behindRun.all fun c => c.2.all fun q => zChk (({ cls := "BeaconLines$Tape", name := "behindRun", desc := "(III)I" } : Jvm.MethodName), prog_7_method_4_code, 5, (Option.some Jvm.ClassFile.FieldType.int), 0, 0, 5, 3, 0) (0, 0) q.1 q.2) = true := by decide +kernel
theorem zk1_55 : zTok1 55 := fun r hr => by
  have e : r = (({ cls := "BeaconLines$Tape", name := "behindRun", desc := "(III)I" } : Jvm.MethodName), prog_7_method_4_code, 5, (Option.some Jvm.ClassFile.FieldType.int), 0, 0, 5, 3, 0) := (Option.some.inj hr).symm
  subst e
  exact ⟨fun pc t h => zAll zk_Tape_behindRun pc t h, rfl⟩
theorem zk_Text_init : (zl_Text_init.all fun c => c.2.all fun q => zChk (({ cls := "BeaconLines$TextReader", name := "<init>", desc := "()V" } : Jvm.MethodName), prog_8_method_1_code, 1, (Option.none : Option Jvm.ClassFile.FieldType), 2, 43, 6, 0, 1) (4, 418) q.1 q.2) = true := by decide +kernel
theorem zk1_56 : zTok1 56 := fun r hr => by
  have e : r = (({ cls := "BeaconLines$TextReader", name := "<init>", desc := "()V" } : Jvm.MethodName), prog_8_method_1_code, 1, (Option.none : Option Jvm.ClassFile.FieldType), 2, 43, 6, 0, 1) := (Option.some.inj hr).symm
  subst e
  exact ⟨fun pc t h => zAll zk_Text_init pc t h, rfl⟩
theorem zk_Text_readAll : (zl_Text_readAll.all fun c => c.2.all fun q => zChk (({ cls := "BeaconLines$TextReader", name := "readAll", desc := "(LBeaconLines$Book;)Z" } : Jvm.MethodName), prog_8_method_2_code, 4, (Option.some Jvm.ClassFile.FieldType.boolean), 6, 153, 6, 1, 0) (0, 0) q.1 q.2) = true := by decide +kernel
theorem zk1_57 : zTok1 57 := fun r hr => by
  have e : r = (({ cls := "BeaconLines$TextReader", name := "readAll", desc := "(LBeaconLines$Book;)Z" } : Jvm.MethodName), prog_8_method_2_code, 4, (Option.some Jvm.ClassFile.FieldType.boolean), 6, 153, 6, 1, 0) := (Option.some.inj hr).symm
  subst e
  exact ⟨fun pc t h => zAll zk_Text_readAll pc t h, rfl⟩
theorem zk_Text_startOver : (zl_Text_startOver.all fun c => c.2.all fun q => zChk (({ cls := "BeaconLines$TextReader", name := "startOver", desc := "(LBeaconLines$Book;)V" } : Jvm.MethodName), prog_8_method_3_code, 2, (Option.none : Option Jvm.ClassFile.FieldType), 2, 44, 6, 1, 0) (0, 0) q.1 q.2) = true := by decide +kernel
theorem zk1_58 : zTok1 58 := fun r hr => by
  have e : r = (({ cls := "BeaconLines$TextReader", name := "startOver", desc := "(LBeaconLines$Book;)V" } : Jvm.MethodName), prog_8_method_3_code, 2, (Option.none : Option Jvm.ClassFile.FieldType), 2, 44, 6, 1, 0) := (Option.some.inj hr).symm
  subst e
  exact ⟨fun pc t h => zAll zk_Text_startOver pc t h, rfl⟩
theorem zk_Text_takeHead : (zl_Text_takeHead.all fun c => c.2.all fun q => zChk (({ cls := "BeaconLines$TextReader", name := "takeHead", desc := "()Z" } : Jvm.MethodName), prog_8_method_4_code, 1, (Option.some Jvm.ClassFile.FieldType.boolean), 5, 133, 6, 0, 0) (0, 0) q.1 q.2) = true := by decide +kernel
theorem zk1_59 : zTok1 59 := fun r hr => by
  have e : r = (({ cls := "BeaconLines$TextReader", name := "takeHead", desc := "()Z" } : Jvm.MethodName), prog_8_method_4_code, 1, (Option.some Jvm.ClassFile.FieldType.boolean), 5, 133, 6, 0, 0) := (Option.some.inj hr).symm
  subst e
  exact ⟨fun pc t h => zAll zk_Text_takeHead pc t h, rfl⟩
theorem zk_Text_takeLine : (zl_Text_takeLine.all fun c => c.2.all fun q => zChk (({ cls := "BeaconLines$TextReader", name := "takeLine", desc := "()Z" } : Jvm.MethodName), prog_8_method_5_code, 1, (Option.some Jvm.ClassFile.FieldType.boolean), 5, 133, 6, 0, 0) (0, 0) q.1 q.2) = true := by decide +kernel
theorem zk1_60 : zTok1 60 := fun r hr => by
  have e : r = (({ cls := "BeaconLines$TextReader", name := "takeLine", desc := "()Z" } : Jvm.MethodName), prog_8_method_5_code, 1, (Option.some Jvm.ClassFile.FieldType.boolean), 5, 133, 6, 0, 0) := (Option.some.inj hr).symm
  subst e
  exact ⟨fun pc t h => zAll zk_Text_takeLine pc t h, rfl⟩
theorem zk_Text_takeHear : (zl_Text_takeHear.all fun c => c.2.all fun q => zChk (({ cls := "BeaconLines$TextReader", name := "takeHear", desc := "()Z" } : Jvm.MethodName), prog_8_method_6_code, 3, (Option.some Jvm.ClassFile.FieldType.boolean), 3, 67, 6, 0, 0) (0, 0) q.1 q.2) = true := by decide +kernel
theorem zk1_61 : zTok1 61 := fun r hr => by
  have e : r = (({ cls := "BeaconLines$TextReader", name := "takeHear", desc := "()Z" } : Jvm.MethodName), prog_8_method_6_code, 3, (Option.some Jvm.ClassFile.FieldType.boolean), 3, 67, 6, 0, 0) := (Option.some.inj hr).symm
  subst e
  exact ⟨fun pc t h => zAll zk_Text_takeHear pc t h, rfl⟩
theorem zk_Text_takeLimit : (zl_Text_takeLimit.all fun c => c.2.all fun q => zChk (({ cls := "BeaconLines$TextReader", name := "takeLimit", desc := "()Z" } : Jvm.MethodName), prog_8_method_7_code, 1, (Option.some Jvm.ClassFile.FieldType.boolean), 3, 67, 6, 0, 0) (0, 0) q.1 q.2) = true := by decide +kernel
theorem zk1_62 : zTok1 62 := fun r hr => by
  have e : r = (({ cls := "BeaconLines$TextReader", name := "takeLimit", desc := "()Z" } : Jvm.MethodName), prog_8_method_7_code, 1, (Option.some Jvm.ClassFile.FieldType.boolean), 3, 67, 6, 0, 0) := (Option.some.inj hr).symm
  subst e
  exact ⟨fun pc t h => zAll zk_Text_takeLimit pc t h, rfl⟩
theorem zk_Text_takeLeast : (zl_Text_takeLeast.all fun c => c.2.all fun q => zChk (({ cls := "BeaconLines$TextReader", name := "takeLeast", desc := "()Z" } : Jvm.MethodName), prog_8_method_8_code, 1, (Option.some Jvm.ClassFile.FieldType.boolean), 3, 67, 6, 0, 0) (0, 0) q.1 q.2) = true := by decide +kernel
theorem zk1_63 : zTok1 63 := fun r hr => by
  have e : r = (({ cls := "BeaconLines$TextReader", name := "takeLeast", desc := "()Z" } : Jvm.MethodName), prog_8_method_8_code, 1, (Option.some Jvm.ClassFile.FieldType.boolean), 3, 67, 6, 0, 0) := (Option.some.inj hr).symm
  subst e
  exact ⟨fun pc t h => zAll zk_Text_takeLeast pc t h, rfl⟩
theorem zk_Text_takeNumber : (zl_Text_takeNumber.all fun c => c.2.all fun q => zChk (({ cls := "BeaconLines$TextReader", name := "takeNumber", desc := "(II)Z" } : Jvm.MethodName), prog_8_method_9_code, 3, (Option.some Jvm.ClassFile.FieldType.boolean), 2, 45, 6, 2, 0) (0, 0) q.1 q.2) = true := by decide +kernel
theorem zk1_64 : zTok1 64 := fun r hr => by
  have e : r = (({ cls := "BeaconLines$TextReader", name := "takeNumber", desc := "(II)Z" } : Jvm.MethodName), prog_8_method_9_code, 3, (Option.some Jvm.ClassFile.FieldType.boolean), 2, 45, 6, 2, 0) := (Option.some.inj hr).symm
  subst e
  exact ⟨fun pc t h => zAll zk_Text_takeNumber pc t h, rfl⟩
theorem zk_Text_takeSign : (zl_Text_takeSign.all fun c => c.2.all fun q => zChk (({ cls := "BeaconLines$TextReader", name := "takeSign", desc := "()Z" } : Jvm.MethodName), prog_8_method_10_code, 1, (Option.some Jvm.ClassFile.FieldType.boolean), 2, 45, 6, 0, 0) (0, 0) q.1 q.2) = true := by decide +kernel
theorem zk1_65 : zTok1 65 := fun r hr => by
  have e : r = (({ cls := "BeaconLines$TextReader", name := "takeSign", desc := "()Z" } : Jvm.MethodName), prog_8_method_10_code, 1, (Option.some Jvm.ClassFile.FieldType.boolean), 2, 45, 6, 0, 0) := (Option.some.inj hr).symm
  subst e
  exact ⟨fun pc t h => zAll zk_Text_takeSign pc t h, rfl⟩
theorem zk_Text_refuse : (zl_Text_refuse.all fun c => c.2.all fun q => zChk (({ cls := "BeaconLines$TextReader", name := "refuse", desc := "(I)Z" } : Jvm.MethodName), prog_8_method_11_code, 2, (Option.some Jvm.ClassFile.FieldType.boolean), 0, 0, 6, 1, 0) (0, 0) q.1 q.2) = true := by decide +kernel
theorem zk1_66 : zTok1 66 := fun r hr => by
  have e : r = (({ cls := "BeaconLines$TextReader", name := "refuse", desc := "(I)Z" } : Jvm.MethodName), prog_8_method_11_code, 2, (Option.some Jvm.ClassFile.FieldType.boolean), 0, 0, 6, 1, 0) := (Option.some.inj hr).symm
  subst e
  exact ⟨fun pc t h => zAll zk_Text_refuse pc t h, rfl⟩
theorem zk_Text_nextToken : (zl_Text_nextToken.all fun c => c.2.all fun q => zChk (({ cls := "BeaconLines$TextReader", name := "nextToken", desc := "()Z" } : Jvm.MethodName), prog_8_method_12_code, 2, (Option.some Jvm.ClassFile.FieldType.boolean), 1, 24, 6, 0, 0) (0, 0) q.1 q.2) = true := by decide +kernel
theorem zk1_67 : zTok1 67 := fun r hr => by
  have e : r = (({ cls := "BeaconLines$TextReader", name := "nextToken", desc := "()Z" } : Jvm.MethodName), prog_8_method_12_code, 2, (Option.some Jvm.ClassFile.FieldType.boolean), 1, 24, 6, 0, 0) := (Option.some.inj hr).symm
  subst e
  exact ⟨fun pc t h => zAll zk_Text_nextToken pc t h, rfl⟩
theorem zk_Text_evaluate : (zl_Text_evaluate.all fun c => c.2.all fun q => zChk (({ cls := "BeaconLines$TextReader", name := "evaluate", desc := "()V" } : Jvm.MethodName), prog_8_method_13_code, 2, (Option.none : Option Jvm.ClassFile.FieldType), 1, 21, 6, 0, 0) (0, 0) q.1 q.2) = true := by decide +kernel
theorem zk1_68 : zTok1 68 := fun r hr => by
  have e : r = (({ cls := "BeaconLines$TextReader", name := "evaluate", desc := "()V" } : Jvm.MethodName), prog_8_method_13_code, 2, (Option.none : Option Jvm.ClassFile.FieldType), 1, 21, 6, 0, 0) := (Option.some.inj hr).symm
  subst e
  exact ⟨fun pc t h => zAll zk_Text_evaluate pc t h, rfl⟩
theorem zk_Text_isName : (zl_Text_isName.all fun c => c.2.all fun q => zChk (({ cls := "BeaconLines$TextReader", name := "isName", desc := "(Ljava/lang/String;)Z" } : Jvm.MethodName), prog_8_method_14_code, 3, (Option.some Jvm.ClassFile.FieldType.boolean), 4, 111, 6, 1, 0) (0, 0) q.1 q.2) = true := by decide +kernel
theorem zk1_69 : zTok1 69 := fun r hr => by
  have e : r = (({ cls := "BeaconLines$TextReader", name := "isName", desc := "(Ljava/lang/String;)Z" } : Jvm.MethodName), prog_8_method_14_code, 3, (Option.some Jvm.ClassFile.FieldType.boolean), 4, 111, 6, 1, 0) := (Option.some.inj hr).symm
  subst e
  exact ⟨fun pc t h => zAll zk_Text_isName pc t h, rfl⟩
theorem zk_Time_init : (zl_Time_init.all fun c => c.2.all fun q => zChk (({ cls := "BeaconLines$Time", name := "<init>", desc := "()V" } : Jvm.MethodName), prog_9_method_1_code, 1, (Option.none : Option Jvm.ClassFile.FieldType), 1, 20, 7, 0, 1) (0, 0) q.1 q.2) = true := by decide +kernel
theorem zk1_70 : zTok1 70 := fun r hr => by
  have e : r = (({ cls := "BeaconLines$Time", name := "<init>", desc := "()V" } : Jvm.MethodName), prog_9_method_1_code, 1, (Option.none : Option Jvm.ClassFile.FieldType), 1, 20, 7, 0, 1) := (Option.some.inj hr).symm
  subst e
  exact ⟨fun pc t h => zAll zk_Time_init pc t h, rfl⟩
theorem zk_Time_startAt : (zl_Time_startAt.all fun c => c.2.all fun q => zChk (({ cls := "BeaconLines$Time", name := "startAt", desc := "(J)V" } : Jvm.MethodName), prog_9_method_2_code, 3, (Option.none : Option Jvm.ClassFile.FieldType), 0, 0, 7, 1, 0) (0, 0) q.1 q.2) = true := by decide +kernel
theorem zk1_71 : zTok1 71 := fun r hr => by
  have e : r = (({ cls := "BeaconLines$Time", name := "startAt", desc := "(J)V" } : Jvm.MethodName), prog_9_method_2_code, 3, (Option.none : Option Jvm.ClassFile.FieldType), 0, 0, 7, 1, 0) := (Option.some.inj hr).symm
  subst e
  exact ⟨fun pc t h => zAll zk_Time_startAt pc t h, rfl⟩
theorem zk_Time_takeBy : (zl_Time_takeBy.all fun c => c.2.all fun q => zChk (({ cls := "BeaconLines$Time", name := "takeBy", desc := "(LBeaconLines$Line;)V" } : Jvm.MethodName), prog_9_method_3_code, 6, (Option.none : Option Jvm.ClassFile.FieldType), 2, 52, 7, 1, 0) (0, 0) q.1 q.2) = true := by decide +kernel
theorem zk1_72 : zTok1 72 := fun r hr => by
  have e : r = (({ cls := "BeaconLines$Time", name := "takeBy", desc := "(LBeaconLines$Line;)V" } : Jvm.MethodName), prog_9_method_3_code, 6, (Option.none : Option Jvm.ClassFile.FieldType), 2, 52, 7, 1, 0) := (Option.some.inj hr).symm
  subst e
  exact ⟨fun pc t h => zAll zk_Time_takeBy pc t h, rfl⟩
theorem zk_Time_subtract : (zl_Time_subtract.all fun c => c.2.all fun q => zChk (({ cls := "BeaconLines$Time", name := "subtract", desc := "(J)V" } : Jvm.MethodName), prog_9_method_4_code, 3, (Option.none : Option Jvm.ClassFile.FieldType), 1, 26, 7, 1, 0) (0, 0) q.1 q.2) = true := by decide +kernel
theorem zk1_73 : zTok1 73 := fun r hr => by
  have e : r = (({ cls := "BeaconLines$Time", name := "subtract", desc := "(J)V" } : Jvm.MethodName), prog_9_method_4_code, 3, (Option.none : Option Jvm.ClassFile.FieldType), 1, 26, 7, 1, 0) := (Option.some.inj hr).symm
  subst e
  exact ⟨fun pc t h => zAll zk_Time_subtract pc t h, rfl⟩
theorem zk_Time_product : (zl_Time_product.all fun c => c.2.all fun q => zChk (({ cls := "BeaconLines$Time", name := "product", desc := "(JJ)J" } : Jvm.MethodName), prog_9_method_5_code, 7, (Option.some Jvm.ClassFile.FieldType.long), 0, 0, 7, 2, 0) (0, 0) q.1 q.2) = true := by decide +kernel
theorem zk1_74 : zTok1 74 := fun r hr => by
  have e : r = (({ cls := "BeaconLines$Time", name := "product", desc := "(JJ)J" } : Jvm.MethodName), prog_9_method_5_code, 7, (Option.some Jvm.ClassFile.FieldType.long), 0, 0, 7, 2, 0) := (Option.some.inj hr).symm
  subst e
  exact ⟨fun pc t h => zAll zk_Time_product pc t h, rfl⟩
theorem zk_Time_total : (zl_Time_total.all fun c => c.2.all fun q => zChk (({ cls := "BeaconLines$Time", name := "total", desc := "(JJ)J" } : Jvm.MethodName), prog_9_method_6_code, 7, (Option.some Jvm.ClassFile.FieldType.long), 0, 0, 7, 2, 0) (0, 0) q.1 q.2) = true := by decide +kernel
theorem zk1_75 : zTok1 75 := fun r hr => by
  have e : r = (({ cls := "BeaconLines$Time", name := "total", desc := "(JJ)J" } : Jvm.MethodName), prog_9_method_6_code, 7, (Option.some Jvm.ClassFile.FieldType.long), 0, 0, 7, 2, 0) := (Option.some.inj hr).symm
  subst e
  exact ⟨fun pc t h => zAll zk_Time_total pc t h, rfl⟩
theorem zk_Time_difference : (zl_Time_difference.all fun c => c.2.all fun q => zChk (({ cls := "BeaconLines$Time", name := "difference", desc := "(JJ)J" } : Jvm.MethodName), prog_9_method_7_code, 7, (Option.some Jvm.ClassFile.FieldType.long), 0, 0, 7, 2, 0) (0, 0) q.1 q.2) = true := by decide +kernel
theorem zk1_76 : zTok1 76 := fun r hr => by
  have e : r = (({ cls := "BeaconLines$Time", name := "difference", desc := "(JJ)J" } : Jvm.MethodName), prog_9_method_7_code, 7, (Option.some Jvm.ClassFile.FieldType.long), 0, 0, 7, 2, 0) := (Option.some.inj hr).symm
  subst e
  exact ⟨fun pc t h => zAll zk_Time_difference pc t h, rfl⟩
theorem zk_Time_nearest : (zl_Time_nearest.all fun c => c.2.all fun q => zChk (({ cls := "BeaconLines$Time", name := "nearest", desc := "(JJ)J" } : Jvm.MethodName), prog_9_method_8_code, 8, (Option.some Jvm.ClassFile.FieldType.long), 1, 25, 7, 2, 2) (0, 0) q.1 q.2) = true := by decide +kernel
theorem zk1_77 : zTok1 77 := fun r hr => by
  have e : r = (({ cls := "BeaconLines$Time", name := "nearest", desc := "(JJ)J" } : Jvm.MethodName), prog_9_method_8_code, 8, (Option.some Jvm.ClassFile.FieldType.long), 1, 25, 7, 2, 2) := (Option.some.inj hr).symm
  subst e
  exact ⟨fun pc t h => zAll zk_Time_nearest pc t h, rfl⟩
theorem zk_Web_init : (zl_Web_init.all fun c => c.2.all fun q => zChk (({ cls := "BeaconLines$Web", name := "<init>", desc := "()V" } : Jvm.MethodName), prog_10_method_1_code, 2, (Option.none : Option Jvm.ClassFile.FieldType), 2, 43, 8, 0, 1) (102, 1593) q.1 q.2) = true := by decide +kernel
theorem zk1_78 : zTok1 78 := fun r hr => by
  have e : r = (({ cls := "BeaconLines$Web", name := "<init>", desc := "()V" } : Jvm.MethodName), prog_10_method_1_code, 2, (Option.none : Option Jvm.ClassFile.FieldType), 2, 43, 8, 0, 1) := (Option.some.inj hr).symm
  subst e
  exact ⟨fun pc t h => zAll zk_Web_init pc t h, rfl⟩
theorem zk_Web_touch : (zl_Web_touch.all fun c => c.2.all fun q => zChk (({ cls := "BeaconLines$Web", name := "touch", desc := "(I)V" } : Jvm.MethodName), prog_10_method_2_code, 2, (Option.none : Option Jvm.ClassFile.FieldType), 0, 0, 8, 1, 0) (0, 0) q.1 q.2) = true := by decide +kernel
theorem zk1_79 : zTok1 79 := fun r hr => by
  have e : r = (({ cls := "BeaconLines$Web", name := "touch", desc := "(I)V" } : Jvm.MethodName), prog_10_method_2_code, 2, (Option.none : Option Jvm.ClassFile.FieldType), 0, 0, 8, 1, 0) := (Option.some.inj hr).symm
  subst e
  exact ⟨fun pc t h => zAll zk_Web_touch pc t h, rfl⟩
theorem zk_Web_touchAll : (zl_Web_touchAll.all fun c => c.2.all fun q => zChk (({ cls := "BeaconLines$Web", name := "touchAll", desc := "()V" } : Jvm.MethodName), prog_10_method_3_code, 1, (Option.none : Option Jvm.ClassFile.FieldType), 1, 23, 8, 0, 0) (0, 0) q.1 q.2) = true := by decide +kernel
theorem zk1_80 : zTok1 80 := fun r hr => by
  have e : r = (({ cls := "BeaconLines$Web", name := "touchAll", desc := "()V" } : Jvm.MethodName), prog_10_method_3_code, 1, (Option.none : Option Jvm.ClassFile.FieldType), 1, 23, 8, 0, 0) := (Option.some.inj hr).symm
  subst e
  exact ⟨fun pc t h => zAll zk_Web_touchAll pc t h, rfl⟩
theorem zk_Web_lineOf : (zl_Web_lineOf.all fun c => c.2.all fun q => zChk (({ cls := "BeaconLines$Web", name := "lineOf", desc := "(II)LBeaconLines$Line;" } : Jvm.MethodName), prog_10_method_4_code, 4, (Option.some (Jvm.ClassFile.FieldType.object "BeaconLines$Line")), 3, 78, 8, 2, 0) (0, 0) q.1 q.2) = true := by decide +kernel
theorem zk1_81 : zTok1 81 := fun r hr => by
  have e : r = (({ cls := "BeaconLines$Web", name := "lineOf", desc := "(II)LBeaconLines$Line;" } : Jvm.MethodName), prog_10_method_4_code, 4, (Option.some (Jvm.ClassFile.FieldType.object "BeaconLines$Line")), 3, 78, 8, 2, 0) := (Option.some.inj hr).symm
  subst e
  exact ⟨fun pc t h => zAll zk_Web_lineOf pc t h, rfl⟩
theorem zk_Web_isKind : (zl_Web_isKind.all fun c => c.2.all fun q => zChk (({ cls := "BeaconLines$Web", name := "isKind", desc := "(III)Z" } : Jvm.MethodName), prog_10_method_5_code, 4, (Option.some Jvm.ClassFile.FieldType.boolean), 4, 101, 8, 3, 0) (0, 0) q.1 q.2) = true := by decide +kernel
theorem zk1_82 : zTok1 82 := fun r hr => by
  have e : r = (({ cls := "BeaconLines$Web", name := "isKind", desc := "(III)Z" } : Jvm.MethodName), prog_10_method_5_code, 4, (Option.some Jvm.ClassFile.FieldType.boolean), 4, 101, 8, 3, 0) := (Option.some.inj hr).symm
  subst e
  exact ⟨fun pc t h => zAll zk_Web_isKind pc t h, rfl⟩
theorem zk_Web_linesOfKind : (zl_Web_linesOfKind.all fun c => c.2.all fun q => zChk (({ cls := "BeaconLines$Web", name := "linesOfKind", desc := "(I)I" } : Jvm.MethodName), prog_10_method_6_code, 5, (Option.some Jvm.ClassFile.FieldType.int), 5, 124, 8, 1, 0) (0, 0) q.1 q.2) = true := by decide +kernel
theorem zk1_83 : zTok1 83 := fun r hr => by
  have e : r = (({ cls := "BeaconLines$Web", name := "linesOfKind", desc := "(I)I" } : Jvm.MethodName), prog_10_method_6_code, 5, (Option.some Jvm.ClassFile.FieldType.int), 5, 124, 8, 1, 0) := (Option.some.inj hr).symm
  subst e
  exact ⟨fun pc t h => zAll zk_Web_linesOfKind pc t h, rfl⟩
theorem zk_Web_goodLinesFrom : (zl_Web_goodLinesFrom.all fun c => c.2.all fun q => zChk (({ cls := "BeaconLines$Web", name := "goodLinesFrom", desc := "(I)I" } : Jvm.MethodName), prog_10_method_7_code, 4, (Option.some Jvm.ClassFile.FieldType.int), 5, 124, 8, 1, 0) (0, 0) q.1 q.2) = true := by decide +kernel
theorem zk1_84 : zTok1 84 := fun r hr => by
  have e : r = (({ cls := "BeaconLines$Web", name := "goodLinesFrom", desc := "(I)I" } : Jvm.MethodName), prog_10_method_7_code, 4, (Option.some Jvm.ClassFile.FieldType.int), 5, 124, 8, 1, 0) := (Option.some.inj hr).symm
  subst e
  exact ⟨fun pc t h => zAll zk_Web_goodLinesFrom pc t h, rfl⟩
theorem zk_Web_goodLinesTo : (zl_Web_goodLinesTo.all fun c => c.2.all fun q => zChk (({ cls := "BeaconLines$Web", name := "goodLinesTo", desc := "(I)I" } : Jvm.MethodName), prog_10_method_8_code, 4, (Option.some Jvm.ClassFile.FieldType.int), 5, 124, 8, 1, 0) (0, 0) q.1 q.2) = true := by decide +kernel
theorem zk1_85 : zTok1 85 := fun r hr => by
  have e : r = (({ cls := "BeaconLines$Web", name := "goodLinesTo", desc := "(I)I" } : Jvm.MethodName), prog_10_method_8_code, 4, (Option.some Jvm.ClassFile.FieldType.int), 5, 124, 8, 1, 0) := (Option.some.inj hr).symm
  subst e
  exact ⟨fun pc t h => zAll zk_Web_goodLinesTo pc t h, rfl⟩
theorem zk_Web_allStrikes : (zl_Web_allStrikes.all fun c => c.2.all fun q => zChk (({ cls := "BeaconLines$Web", name := "allStrikes", desc := "()I" } : Jvm.MethodName), prog_10_method_9_code, 4, (Option.some Jvm.ClassFile.FieldType.int), 4, 101, 8, 0, 0) (0, 0) q.1 q.2) = true := by decide +kernel
theorem zk1_86 : zTok1 86 := fun r hr => by
  have e : r = (({ cls := "BeaconLines$Web", name := "allStrikes", desc := "()I" } : Jvm.MethodName), prog_10_method_9_code, 4, (Option.some Jvm.ClassFile.FieldType.int), 4, 101, 8, 0, 0) := (Option.some.inj hr).symm
  subst e
  exact ⟨fun pc t h => zAll zk_Web_allStrikes pc t h, rfl⟩
theorem zk_BL_init : (zl_BL_init.all fun c => c.2.all fun q => zChk (({ cls := "BeaconLines", name := "<init>", desc := "()V" } : Jvm.MethodName), prog_1_method_1_code, 2, (Option.none : Option Jvm.ClassFile.FieldType), 3, 64, 9, 0, 1) (130, 2548) q.1 q.2) = true := by decide +kernel
theorem zk1_87 : zTok1 87 := fun r hr => by
  have e : r = (({ cls := "BeaconLines", name := "<init>", desc := "()V" } : Jvm.MethodName), prog_1_method_1_code, 2, (Option.none : Option Jvm.ClassFile.FieldType), 3, 64, 9, 0, 1) := (Option.some.inj hr).symm
  subst e
  exact ⟨fun pc t h => zAll zk_BL_init pc t h, rfl⟩
theorem zk_BL_feed : (zl_BL_feed.all fun c => c.2.all fun q => zChk (({ cls := "BeaconLines", name := "feed", desc := "(I)I" } : Jvm.MethodName), prog_1_method_2_code, 2, (Option.some Jvm.ClassFile.FieldType.int), 1, 21, 9, 1, 0) (0, 0) q.1 q.2) = true := by decide +kernel
theorem zk1_88 : zTok1 88 := fun r hr => by
  have e : r = (({ cls := "BeaconLines", name := "feed", desc := "(I)I" } : Jvm.MethodName), prog_1_method_2_code, 2, (Option.some Jvm.ClassFile.FieldType.int), 1, 21, 9, 1, 0) := (Option.some.inj hr).symm
  subst e
  exact ⟨fun pc t h => zAll zk_BL_feed pc t h, rfl⟩
theorem zk_BL_end : (zl_BL_end.all fun c => c.2.all fun q => zChk (({ cls := "BeaconLines", name := "end", desc := "(I)I" } : Jvm.MethodName), prog_1_method_3_code, 3, (Option.some Jvm.ClassFile.FieldType.int), 0, 0, 9, 1, 0) (0, 0) q.1 q.2) = true := by decide +kernel
theorem zk1_89 : zTok1 89 := fun r hr => by
  have e : r = (({ cls := "BeaconLines", name := "end", desc := "(I)I" } : Jvm.MethodName), prog_1_method_3_code, 3, (Option.some Jvm.ClassFile.FieldType.int), 0, 0, 9, 1, 0) := (Option.some.inj hr).symm
  subst e
  exact ⟨fun pc t h => zAll zk_BL_end pc t h, rfl⟩
theorem zk_BL_text : (zl_BL_text.all fun c => c.2.all fun q => zChk (({ cls := "BeaconLines", name := "text", desc := "()I" } : Jvm.MethodName), prog_1_method_4_code, 2, (Option.some Jvm.ClassFile.FieldType.int), 7, 176, 9, 0, 0) (0, 0) q.1 q.2) = true := by decide +kernel
theorem zk1_90 : zTok1 90 := fun r hr => by
  have e : r = (({ cls := "BeaconLines", name := "text", desc := "()I" } : Jvm.MethodName), prog_1_method_4_code, 2, (Option.some Jvm.ClassFile.FieldType.int), 7, 176, 9, 0, 0) := (Option.some.inj hr).symm
  subst e
  exact ⟨fun pc t h => zAll zk_BL_text pc t h, rfl⟩
theorem zk_BL_dropImages : (zl_BL_dropImages.all fun c => c.2.all fun q => zChk (({ cls := "BeaconLines", name := "dropImages", desc := "()V" } : Jvm.MethodName), prog_1_method_5_code, 2, (Option.none : Option Jvm.ClassFile.FieldType), 0, 0, 9, 0, 0) (0, 0) q.1 q.2) = true := by decide +kernel
theorem zk1_91 : zTok1 91 := fun r hr => by
  have e : r = (({ cls := "BeaconLines", name := "dropImages", desc := "()V" } : Jvm.MethodName), prog_1_method_5_code, 2, (Option.none : Option Jvm.ClassFile.FieldType), 0, 0, 9, 0, 0) := (Option.some.inj hr).symm
  subst e
  exact ⟨fun pc t h => zAll zk_BL_dropImages pc t h, rfl⟩
theorem zk_BL_fault : (zl_BL_fault.all fun c => c.2.all fun q => zChk (({ cls := "BeaconLines", name := "fault", desc := "()I" } : Jvm.MethodName), prog_1_method_6_code, 1, (Option.some Jvm.ClassFile.FieldType.int), 0, 0, 9, 0, 0) (0, 0) q.1 q.2) = true := by decide +kernel
theorem zk1_92 : zTok1 92 := fun r hr => by
  have e : r = (({ cls := "BeaconLines", name := "fault", desc := "()I" } : Jvm.MethodName), prog_1_method_6_code, 1, (Option.some Jvm.ClassFile.FieldType.int), 0, 0, 9, 0, 0) := (Option.some.inj hr).symm
  subst e
  exact ⟨fun pc t h => zAll zk_BL_fault pc t h, rfl⟩
theorem zk_BL_rule : (zl_BL_rule.all fun c => c.2.all fun q => zChk (({ cls := "BeaconLines", name := "rule", desc := "(I)I" } : Jvm.MethodName), prog_1_method_7_code, 2, (Option.some Jvm.ClassFile.FieldType.int), 6, 148, 9, 1, 0) (0, 0) q.1 q.2) = true := by decide +kernel
theorem zk1_93 : zTok1 93 := fun r hr => by
  have e : r = (({ cls := "BeaconLines", name := "rule", desc := "(I)I" } : Jvm.MethodName), prog_1_method_7_code, 2, (Option.some Jvm.ClassFile.FieldType.int), 6, 148, 9, 1, 0) := (Option.some.inj hr).symm
  subst e
  exact ⟨fun pc t h => zAll zk_BL_rule pc t h, rfl⟩
theorem zk_BL_stamp : (zl_BL_stamp.all fun c => c.2.all fun q => zChk (({ cls := "BeaconLines", name := "stamp", desc := "(II)I" } : Jvm.MethodName), prog_1_method_8_code, 3, (Option.some Jvm.ClassFile.FieldType.int), 1, 22, 9, 2, 0) (0, 0) q.1 q.2) = true := by decide +kernel
theorem zk1_94 : zTok1 94 := fun r hr => by
  have e : r = (({ cls := "BeaconLines", name := "stamp", desc := "(II)I" } : Jvm.MethodName), prog_1_method_8_code, 3, (Option.some Jvm.ClassFile.FieldType.int), 1, 22, 9, 2, 0) := (Option.some.inj hr).symm
  subst e
  exact ⟨fun pc t h => zAll zk_BL_stamp pc t h, rfl⟩
theorem zk_BL_clock : (zl_BL_clock.all fun c => c.2.all fun q => zChk (({ cls := "BeaconLines", name := "clock", desc := "(II)I" } : Jvm.MethodName), prog_1_method_9_code, 3, (Option.some Jvm.ClassFile.FieldType.int), 6, 147, 9, 2, 0) (0, 0) q.1 q.2) = true := by decide +kernel
theorem zk1_95 : zTok1 95 := fun r hr => by
  have e : r = (({ cls := "BeaconLines", name := "clock", desc := "(II)I" } : Jvm.MethodName), prog_1_method_9_code, 3, (Option.some Jvm.ClassFile.FieldType.int), 6, 147, 9, 2, 0) := (Option.some.inj hr).symm
  subst e
  exact ⟨fun pc t h => zAll zk_BL_clock pc t h, rfl⟩
theorem zk_BL_line : (zl_BL_line.all fun c => c.2.all fun q => zChk (({ cls := "BeaconLines", name := "line", desc := "(III)I" } : Jvm.MethodName), prog_1_method_10_code, 5, (Option.some Jvm.ClassFile.FieldType.int), 4, 101, 9, 3, 0) (0, 0) q.1 q.2) = true := by decide +kernel
theorem zk1_96 : zTok1 96 := fun r hr => by
  have e : r = (({ cls := "BeaconLines", name := "line", desc := "(III)I" } : Jvm.MethodName), prog_1_method_10_code, 5, (Option.some Jvm.ClassFile.FieldType.int), 4, 101, 9, 3, 0) := (Option.some.inj hr).symm
  subst e
  exact ⟨fun pc t h => zAll zk_BL_line pc t h, rfl⟩
theorem zk_BL_sum : (zl_BL_sum.all fun c => c.2.all fun q => zChk (({ cls := "BeaconLines", name := "sum", desc := "(III)J" } : Jvm.MethodName), prog_1_method_11_code, 5, (Option.some Jvm.ClassFile.FieldType.long), 4, 101, 9, 3, 0) (0, 0) q.1 q.2) = true := by decide +kernel
theorem zk1_97 : zTok1 97 := fun r hr => by
  have e : r = (({ cls := "BeaconLines", name := "sum", desc := "(III)J" } : Jvm.MethodName), prog_1_method_11_code, 5, (Option.some Jvm.ClassFile.FieldType.long), 4, 101, 9, 3, 0) := (Option.some.inj hr).symm
  subst e
  exact ⟨fun pc t h => zAll zk_BL_sum pc t h, rfl⟩
theorem zk_BL_struck : (zl_BL_struck.all fun c => c.2.all fun q => zChk (({ cls := "BeaconLines", name := "struck", desc := "(III)I" } : Jvm.MethodName), prog_1_method_12_code, 5, (Option.some Jvm.ClassFile.FieldType.int), 4, 101, 9, 3, 0) (0, 0) q.1 q.2) = true := by decide +kernel
theorem zk1_98 : zTok1 98 := fun r hr => by
  have e : r = (({ cls := "BeaconLines", name := "struck", desc := "(III)I" } : Jvm.MethodName), prog_1_method_12_code, 5, (Option.some Jvm.ClassFile.FieldType.int), 4, 101, 9, 3, 0) := (Option.some.inj hr).symm
  subst e
  exact ⟨fun pc t h => zAll zk_BL_struck pc t h, rfl⟩
theorem zk_BL_far : (zl_BL_far.all fun c => c.2.all fun q => zChk (({ cls := "BeaconLines", name := "far", desc := "(III)J" } : Jvm.MethodName), prog_1_method_13_code, 7, (Option.some Jvm.ClassFile.FieldType.long), 4, 101, 9, 3, 0) (0, 0) q.1 q.2) = true := by decide +kernel
theorem zk1_99 : zTok1 99 := fun r hr => by
  have e : r = (({ cls := "BeaconLines", name := "far", desc := "(III)J" } : Jvm.MethodName), prog_1_method_13_code, 7, (Option.some Jvm.ClassFile.FieldType.long), 4, 101, 9, 3, 0) := (Option.some.inj hr).symm
  subst e
  exact ⟨fun pc t h => zAll zk_BL_far pc t h, rfl⟩
theorem zk_BL_cost : (zl_BL_cost.all fun c => c.2.all fun q => zChk (({ cls := "BeaconLines", name := "cost", desc := "(II)I" } : Jvm.MethodName), prog_1_method_14_code, 3, (Option.some Jvm.ClassFile.FieldType.int), 6, 145, 9, 2, 0) (0, 0) q.1 q.2) = true := by decide +kernel
theorem zk1_100 : zTok1 100 := fun r hr => by
  have e : r = (({ cls := "BeaconLines", name := "cost", desc := "(II)I" } : Jvm.MethodName), prog_1_method_14_code, 3, (Option.some Jvm.ClassFile.FieldType.int), 6, 145, 9, 2, 0) := (Option.some.inj hr).symm
  subst e
  exact ⟨fun pc t h => zAll zk_BL_cost pc t h, rfl⟩
theorem zk_BL_chain : (zl_BL_chain.all fun c => c.2.all fun q => zChk (({ cls := "BeaconLines", name := "chain", desc := "(III)I" } : Jvm.MethodName), prog_1_method_15_code, 6, (Option.some Jvm.ClassFile.FieldType.int), 6, 145, 9, 3, 0) (0, 0) q.1 q.2) = true := by decide +kernel
theorem zk1_101 : zTok1 101 := fun r hr => by
  have e : r = (({ cls := "BeaconLines", name := "chain", desc := "(III)I" } : Jvm.MethodName), prog_1_method_15_code, 6, (Option.some Jvm.ClassFile.FieldType.int), 6, 145, 9, 3, 0) := (Option.some.inj hr).symm
  subst e
  exact ⟨fun pc t h => zAll zk_BL_chain pc t h, rfl⟩
theorem zk_BL_taken : (zl_BL_taken.all fun c => c.2.all fun q => zChk (({ cls := "BeaconLines", name := "taken", desc := "(IIJ)J" } : Jvm.MethodName), prog_1_method_16_code, 5, (Option.some Jvm.ClassFile.FieldType.long), 6, 145, 9, 3, 0) (0, 0) q.1 q.2) = true := by decide +kernel
theorem zk1_102 : zTok1 102 := fun r hr => by
  have e : r = (({ cls := "BeaconLines", name := "taken", desc := "(IIJ)J" } : Jvm.MethodName), prog_1_method_16_code, 5, (Option.some Jvm.ClassFile.FieldType.long), 6, 145, 9, 3, 0) := (Option.some.inj hr).symm
  subst e
  exact ⟨fun pc t h => zAll zk_BL_taken pc t h, rfl⟩
theorem zk_BL_ok : (zl_BL_ok.all fun c => c.2.all fun q => zChk (({ cls := "BeaconLines", name := "ok", desc := "()I" } : Jvm.MethodName), prog_1_method_17_code, 1, (Option.some Jvm.ClassFile.FieldType.int), 0, 0, 9, 0, 0) (0, 0) q.1 q.2) = true := by decide +kernel
theorem zk1_103 : zTok1 103 := fun r hr => by
  have e : r = (({ cls := "BeaconLines", name := "ok", desc := "()I" } : Jvm.MethodName), prog_1_method_17_code, 1, (Option.some Jvm.ClassFile.FieldType.int), 0, 0, 9, 0, 0) := (Option.some.inj hr).symm
  subst e
  exact ⟨fun pc t h => zAll zk_BL_ok pc t h, rfl⟩
theorem zk_BL_there : (zl_BL_there.all fun c => c.2.all fun q => zChk (({ cls := "BeaconLines", name := "there", desc := "(IIJ)J" } : Jvm.MethodName), prog_1_method_18_code, 5, (Option.some Jvm.ClassFile.FieldType.long), 6, 145, 9, 3, 0) (0, 0) q.1 q.2) = true := by decide +kernel
theorem zk1_104 : zTok1 104 := fun r hr => by
  have e : r = (({ cls := "BeaconLines", name := "there", desc := "(IIJ)J" } : Jvm.MethodName), prog_1_method_18_code, 5, (Option.some Jvm.ClassFile.FieldType.long), 6, 145, 9, 3, 0) := (Option.some.inj hr).symm
  subst e
  exact ⟨fun pc t h => zAll zk_BL_there pc t h, rfl⟩
theorem zk_BL_takeAlong : (zl_BL_takeAlong.all fun c => c.2.all fun q => zChk (({ cls := "BeaconLines", name := "takeAlong", desc := "(II)V" } : Jvm.MethodName), prog_1_method_19_code, 6, (Option.none : Option Jvm.ClassFile.FieldType), 4, 101, 9, 2, 0) (0, 0) q.1 q.2) = true := by decide +kernel
theorem zk1_105 : zTok1 105 := fun r hr => by
  have e : r = (({ cls := "BeaconLines", name := "takeAlong", desc := "(II)V" } : Jvm.MethodName), prog_1_method_19_code, 6, (Option.none : Option Jvm.ClassFile.FieldType), 4, 101, 9, 2, 0) := (Option.some.inj hr).symm
  subst e
  exact ⟨fun pc t h => zAll zk_BL_takeAlong pc t h, rfl⟩
theorem zk_BL_freshChains : (zl_BL_freshChains.all fun c => c.2.all fun q => zChk (({ cls := "BeaconLines", name := "freshChains", desc := "()LBeaconLines$Chains;" } : Jvm.MethodName), prog_1_method_20_code, 1, (Option.some (Jvm.ClassFile.FieldType.object "BeaconLines$Chains")), 5, 125, 9, 0, 0) (0, 0) q.1 q.2) = true := by decide +kernel
theorem zk1_106 : zTok1 106 := fun r hr => by
  have e : r = (({ cls := "BeaconLines", name := "freshChains", desc := "()LBeaconLines$Chains;" } : Jvm.MethodName), prog_1_method_20_code, 1, (Option.some (Jvm.ClassFile.FieldType.object "BeaconLines$Chains")), 5, 125, 9, 0, 0) := (Option.some.inj hr).symm
  subst e
  exact ⟨fun pc t h => zAll zk_BL_freshChains pc t h, rfl⟩
theorem zk_BL_toldTime : (zl_BL_toldTime.all fun c => c.2.all fun q => zChk (({ cls := "BeaconLines", name := "toldTime", desc := "()J" } : Jvm.MethodName), prog_1_method_21_code, 1, (Option.some Jvm.ClassFile.FieldType.long), 0, 0, 9, 0, 0) (0, 0) q.1 q.2) = true := by decide +kernel
theorem zk1_107 : zTok1 107 := fun r hr => by
  have e : r = (({ cls := "BeaconLines", name := "toldTime", desc := "()J" } : Jvm.MethodName), prog_1_method_21_code, 1, (Option.some Jvm.ClassFile.FieldType.long), 0, 0, 9, 0, 0) := (Option.some.inj hr).symm
  subst e
  exact ⟨fun pc t h => zAll zk_BL_toldTime pc t h, rfl⟩
theorem zk_BL_hear : (zl_BL_hear.all fun c => c.2.all fun q => zChk (({ cls := "BeaconLines", name := "hear", desc := "(III)I" } : Jvm.MethodName), prog_1_method_22_code, 4, (Option.some Jvm.ClassFile.FieldType.int), 2, 47, 9, 3, 0) (0, 0) q.1 q.2) = true := by decide +kernel
theorem zk1_108 : zTok1 108 := fun r hr => by
  have e : r = (({ cls := "BeaconLines", name := "hear", desc := "(III)I" } : Jvm.MethodName), prog_1_method_22_code, 4, (Option.some Jvm.ClassFile.FieldType.int), 2, 47, 9, 3, 0) := (Option.some.inj hr).symm
  subst e
  exact ⟨fun pc t h => zAll zk_BL_hear pc t h, rfl⟩
theorem zk_BL_lose : (zl_BL_lose.all fun c => c.2.all fun q => zChk (({ cls := "BeaconLines", name := "lose", desc := "(II)I" } : Jvm.MethodName), prog_1_method_23_code, 3, (Option.some Jvm.ClassFile.FieldType.int), 2, 47, 9, 2, 0) (0, 0) q.1 q.2) = true := by decide +kernel
theorem zk1_109 : zTok1 109 := fun r hr => by
  have e : r = (({ cls := "BeaconLines", name := "lose", desc := "(II)I" } : Jvm.MethodName), prog_1_method_23_code, 3, (Option.some Jvm.ClassFile.FieldType.int), 2, 47, 9, 2, 0) := (Option.some.inj hr).symm
  subst e
  exact ⟨fun pc t h => zAll zk_BL_lose pc t h, rfl⟩
theorem zk_BL_replaceStamp : (zl_BL_replaceStamp.all fun c => c.2.all fun q => zChk (({ cls := "BeaconLines", name := "replaceStamp", desc := "(III)I" } : Jvm.MethodName), prog_1_method_24_code, 5, (Option.some Jvm.ClassFile.FieldType.int), 1, 23, 9, 3, 0) (0, 0) q.1 q.2) = true := by decide +kernel
theorem zk1_110 : zTok1 110 := fun r hr => by
  have e : r = (({ cls := "BeaconLines", name := "replaceStamp", desc := "(III)I" } : Jvm.MethodName), prog_1_method_24_code, 5, (Option.some Jvm.ClassFile.FieldType.int), 1, 23, 9, 3, 0) := (Option.some.inj hr).symm
  subst e
  exact ⟨fun pc t h => zAll zk_BL_replaceStamp pc t h, rfl⟩
theorem zk_BL_shift : (zl_BL_shift.all fun c => c.2.all fun q => zChk (({ cls := "BeaconLines", name := "shift", desc := "(II)I" } : Jvm.MethodName), prog_1_method_25_code, 3, (Option.some Jvm.ClassFile.FieldType.int), 2, 48, 9, 2, 0) (0, 0) q.1 q.2) = true := by decide +kernel
theorem zk1_111 : zTok1 111 := fun r hr => by
  have e : r = (({ cls := "BeaconLines", name := "shift", desc := "(II)I" } : Jvm.MethodName), prog_1_method_25_code, 3, (Option.some Jvm.ClassFile.FieldType.int), 2, 48, 9, 2, 0) := (Option.some.inj hr).symm
  subst e
  exact ⟨fun pc t h => zAll zk_BL_shift pc t h, rfl⟩
theorem zk_BL_set : (zl_BL_set.all fun c => c.2.all fun q => zChk (({ cls := "BeaconLines", name := "set", desc := "(II)I" } : Jvm.MethodName), prog_1_method_26_code, 4, (Option.some Jvm.ClassFile.FieldType.int), 2, 43, 9, 2, 0) (0, 0) q.1 q.2) = true := by decide +kernel
theorem zk1_112 : zTok1 112 := fun r hr => by
  have e : r = (({ cls := "BeaconLines", name := "set", desc := "(II)I" } : Jvm.MethodName), prog_1_method_26_code, 4, (Option.some Jvm.ClassFile.FieldType.int), 2, 43, 9, 2, 0) := (Option.some.inj hr).symm
  subst e
  exact ⟨fun pc t h => zAll zk_BL_set pc t h, rfl⟩
theorem zk_BL_draw : (zl_BL_draw.all fun c => c.2.all fun q => zChk (({ cls := "BeaconLines", name := "draw", desc := "(II)I" } : Jvm.MethodName), prog_1_method_27_code, 3, (Option.some Jvm.ClassFile.FieldType.int), 3, 71, 9, 2, 0) (0, 0) q.1 q.2) = true := by decide +kernel
theorem zk1_113 : zTok1 113 := fun r hr => by
  have e : r = (({ cls := "BeaconLines", name := "draw", desc := "(II)I" } : Jvm.MethodName), prog_1_method_27_code, 3, (Option.some Jvm.ClassFile.FieldType.int), 3, 71, 9, 2, 0) := (Option.some.inj hr).symm
  subst e
  exact ⟨fun pc t h => zAll zk_BL_draw pc t h, rfl⟩
theorem zk_BL_keep : (zl_BL_keep.all fun c => c.2.all fun q => zChk (({ cls := "BeaconLines", name := "keep", desc := "(I)I" } : Jvm.MethodName), prog_1_method_28_code, 3, (Option.some Jvm.ClassFile.FieldType.int), 2, 69, 9, 1, 0) (0, 0) q.1 q.2) = true := by decide +kernel
theorem zk1_114 : zTok1 114 := fun r hr => by
  have e : r = (({ cls := "BeaconLines", name := "keep", desc := "(I)I" } : Jvm.MethodName), prog_1_method_28_code, 3, (Option.some Jvm.ClassFile.FieldType.int), 2, 69, 9, 1, 0) := (Option.some.inj hr).symm
  subst e
  exact ⟨fun pc t h => zAll zk_BL_keep pc t h, rfl⟩
theorem zk_BL_back : (zl_BL_back.all fun c => c.2.all fun q => zChk (({ cls := "BeaconLines", name := "back", desc := "(I)I" } : Jvm.MethodName), prog_1_method_29_code, 2, (Option.some Jvm.ClassFile.FieldType.int), 3, 69, 9, 1, 0) (0, 0) q.1 q.2) = true := by decide +kernel
theorem zk1_115 : zTok1 115 := fun r hr => by
  have e : r = (({ cls := "BeaconLines", name := "back", desc := "(I)I" } : Jvm.MethodName), prog_1_method_29_code, 2, (Option.some Jvm.ClassFile.FieldType.int), 3, 69, 9, 1, 0) := (Option.some.inj hr).symm
  subst e
  exact ⟨fun pc t h => zAll zk_BL_back pc t h, rfl⟩
theorem zk_BL_sheet : (zl_BL_sheet.all fun c => c.2.all fun q => zChk (({ cls := "BeaconLines", name := "sheet", desc := "(III)I" } : Jvm.MethodName), prog_1_method_30_code, 4, (Option.some Jvm.ClassFile.FieldType.int), 2, 46, 9, 3, 0) (0, 0) q.1 q.2) = true := by decide +kernel
theorem zk1_116 : zTok1 116 := fun r hr => by
  have e : r = (({ cls := "BeaconLines", name := "sheet", desc := "(III)I" } : Jvm.MethodName), prog_1_method_30_code, 4, (Option.some Jvm.ClassFile.FieldType.int), 2, 46, 9, 3, 0) := (Option.some.inj hr).symm
  subst e
  exact ⟨fun pc t h => zAll zk_BL_sheet pc t h, rfl⟩
theorem zk_BL_lay : (zl_BL_lay.all fun c => c.2.all fun q => zChk (({ cls := "BeaconLines", name := "lay", desc := "(III)I" } : Jvm.MethodName), prog_1_method_31_code, 5, (Option.some Jvm.ClassFile.FieldType.int), 1, 22, 9, 3, 0) (0, 0) q.1 q.2) = true := by decide +kernel
theorem zk1_117 : zTok1 117 := fun r hr => by
  have e : r = (({ cls := "BeaconLines", name := "lay", desc := "(III)I" } : Jvm.MethodName), prog_1_method_31_code, 5, (Option.some Jvm.ClassFile.FieldType.int), 1, 22, 9, 3, 0) := (Option.some.inj hr).symm
  subst e
  exact ⟨fun pc t h => zAll zk_BL_lay pc t h, rfl⟩
theorem zk_BL_read : (zl_BL_read.all fun c => c.2.all fun q => zChk (({ cls := "BeaconLines", name := "read", desc := "(IIIII)I" } : Jvm.MethodName), prog_1_method_32_code, 9, (Option.some Jvm.ClassFile.FieldType.int), 2, 45, 9, 5, 0) (0, 0) q.1 q.2) = true := by decide +kernel
theorem zk1_118 : zTok1 118 := fun r hr => by
  have e : r = (({ cls := "BeaconLines", name := "read", desc := "(IIIII)I" } : Jvm.MethodName), prog_1_method_32_code, 9, (Option.some Jvm.ClassFile.FieldType.int), 2, 45, 9, 5, 0) := (Option.some.inj hr).symm
  subst e
  exact ⟨fun pc t h => zAll zk_BL_read pc t h, rfl⟩
theorem zk_BL_count : (zl_BL_count.all fun c => c.2.all fun q => zChk (({ cls := "BeaconLines", name := "count", desc := "(I)I" } : Jvm.MethodName), prog_1_method_33_code, 2, (Option.some Jvm.ClassFile.FieldType.int), 1, 22, 9, 1, 0) (0, 0) q.1 q.2) = true := by decide +kernel
theorem zk1_119 : zTok1 119 := fun r hr => by
  have e : r = (({ cls := "BeaconLines", name := "count", desc := "(I)I" } : Jvm.MethodName), prog_1_method_33_code, 2, (Option.some Jvm.ClassFile.FieldType.int), 1, 22, 9, 1, 0) := (Option.some.inj hr).symm
  subst e
  exact ⟨fun pc t h => zAll zk_BL_count pc t h, rfl⟩
theorem zk_BL_keptImages : (zl_BL_keptImages.all fun c => c.2.all fun q => zChk (({ cls := "BeaconLines", name := "keptImages", desc := "()I" } : Jvm.MethodName), prog_1_method_34_code, 3, (Option.some Jvm.ClassFile.FieldType.int), 0, 0, 9, 0, 0) (0, 0) q.1 q.2) = true := by decide +kernel
theorem zk1_120 : zTok1 120 := fun r hr => by
  have e : r = (({ cls := "BeaconLines", name := "keptImages", desc := "()I" } : Jvm.MethodName), prog_1_method_34_code, 3, (Option.some Jvm.ClassFile.FieldType.int), 0, 0, 9, 0, 0) := (Option.some.inj hr).symm
  subst e
  exact ⟨fun pc t h => zAll zk_BL_keptImages pc t h, rfl⟩
theorem zk_BL_isPair : (zl_BL_isPair.all fun c => c.2.all fun q => zChk (({ cls := "BeaconLines", name := "isPair", desc := "(II)Z" } : Jvm.MethodName), prog_1_method_35_code, 3, (Option.some Jvm.ClassFile.FieldType.boolean), 1, 21, 9, 2, 0) (0, 0) q.1 q.2) = true := by decide +kernel
theorem zk1_121 : zTok1 121 := fun r hr => by
  have e : r = (({ cls := "BeaconLines", name := "isPair", desc := "(II)Z" } : Jvm.MethodName), prog_1_method_35_code, 3, (Option.some Jvm.ClassFile.FieldType.boolean), 1, 21, 9, 2, 0) := (Option.some.inj hr).symm
  subst e
  exact ⟨fun pc t h => zAll zk_BL_isPair pc t h, rfl⟩
theorem zk_BL_isBeacon : (zl_BL_isBeacon.all fun c => c.2.all fun q => zChk (({ cls := "BeaconLines", name := "isBeacon", desc := "(I)Z" } : Jvm.MethodName), prog_1_method_36_code, 1, (Option.some Jvm.ClassFile.FieldType.boolean), 0, 0, 9, 1, 2) (0, 0) q.1 q.2) = true := by decide +kernel
theorem zk1_122 : zTok1 122 := fun r hr => by
  have e : r = (({ cls := "BeaconLines", name := "isBeacon", desc := "(I)Z" } : Jvm.MethodName), prog_1_method_36_code, 1, (Option.some Jvm.ClassFile.FieldType.boolean), 0, 0, 9, 1, 2) := (Option.some.inj hr).symm
  subst e
  exact ⟨fun pc t h => zAll zk_BL_isBeacon pc t h, rfl⟩
theorem zk_BL_isClockCount : (zl_BL_isClockCount.all fun c => c.2.all fun q => zChk (({ cls := "BeaconLines", name := "isClockCount", desc := "(I)Z" } : Jvm.MethodName), prog_1_method_37_code, 1, (Option.some Jvm.ClassFile.FieldType.boolean), 0, 0, 9, 1, 2) (0, 0) q.1 q.2) = true := by decide +kernel
theorem zk1_123 : zTok1 123 := fun r hr => by
  have e : r = (({ cls := "BeaconLines", name := "isClockCount", desc := "(I)Z" } : Jvm.MethodName), prog_1_method_37_code, 1, (Option.some Jvm.ClassFile.FieldType.boolean), 0, 0, 9, 1, 2) := (Option.some.inj hr).symm
  subst e
  exact ⟨fun pc t h => zAll zk_BL_isClockCount pc t h, rfl⟩
theorem zk_BL_isLimit : (zl_BL_isLimit.all fun c => c.2.all fun q => zChk (({ cls := "BeaconLines", name := "isLimit", desc := "(I)Z" } : Jvm.MethodName), prog_1_method_38_code, 1, (Option.some Jvm.ClassFile.FieldType.boolean), 0, 0, 9, 1, 2) (0, 0) q.1 q.2) = true := by decide +kernel
theorem zk1_124 : zTok1 124 := fun r hr => by
  have e : r = (({ cls := "BeaconLines", name := "isLimit", desc := "(I)Z" } : Jvm.MethodName), prog_1_method_38_code, 1, (Option.some Jvm.ClassFile.FieldType.boolean), 0, 0, 9, 1, 2) := (Option.some.inj hr).symm
  subst e
  exact ⟨fun pc t h => zAll zk_BL_isLimit pc t h, rfl⟩
theorem zk_BL_isLeast : (zl_BL_isLeast.all fun c => c.2.all fun q => zChk (({ cls := "BeaconLines", name := "isLeast", desc := "(I)Z" } : Jvm.MethodName), prog_1_method_39_code, 1, (Option.some Jvm.ClassFile.FieldType.boolean), 0, 0, 9, 1, 2) (0, 0) q.1 q.2) = true := by decide +kernel
theorem zk1_125 : zTok1 125 := fun r hr => by
  have e : r = (({ cls := "BeaconLines", name := "isLeast", desc := "(I)Z" } : Jvm.MethodName), prog_1_method_39_code, 1, (Option.some Jvm.ClassFile.FieldType.boolean), 0, 0, 9, 1, 2) := (Option.some.inj hr).symm
  subst e
  exact ⟨fun pc t h => zAll zk_BL_isLeast pc t h, rfl⟩
theorem zk_BL_isImage : (zl_BL_isImage.all fun c => c.2.all fun q => zChk (({ cls := "BeaconLines", name := "isImage", desc := "(I)Z" } : Jvm.MethodName), prog_1_method_40_code, 1, (Option.some Jvm.ClassFile.FieldType.boolean), 0, 0, 9, 1, 2) (0, 0) q.1 q.2) = true := by decide +kernel
theorem zk1_126 : zTok1 126 := fun r hr => by
  have e : r = (({ cls := "BeaconLines", name := "isImage", desc := "(I)Z" } : Jvm.MethodName), prog_1_method_40_code, 1, (Option.some Jvm.ClassFile.FieldType.boolean), 0, 0, 9, 1, 2) := (Option.some.inj hr).symm
  subst e
  exact ⟨fun pc t h => zAll zk_BL_isImage pc t h, rfl⟩
theorem zk_BL_isSheet : (zl_BL_isSheet.all fun c => c.2.all fun q => zChk (({ cls := "BeaconLines", name := "isSheet", desc := "(I)Z" } : Jvm.MethodName), prog_1_method_41_code, 1, (Option.some Jvm.ClassFile.FieldType.boolean), 0, 0, 9, 1, 2) (0, 0) q.1 q.2) = true := by decide +kernel
theorem zk1_127 : zTok1 127 := fun r hr => by
  have e : r = (({ cls := "BeaconLines", name := "isSheet", desc := "(I)Z" } : Jvm.MethodName), prog_1_method_41_code, 1, (Option.some Jvm.ClassFile.FieldType.boolean), 0, 0, 9, 1, 2) := (Option.some.inj hr).symm
  subst e
  exact ⟨fun pc t h => zAll zk_BL_isSheet pc t h, rfl⟩
theorem zk_BL_isLane : (zl_BL_isLane.all fun c => c.2.all fun q => zChk (({ cls := "BeaconLines", name := "isLane", desc := "(I)Z" } : Jvm.MethodName), prog_1_method_42_code, 1, (Option.some Jvm.ClassFile.FieldType.boolean), 0, 0, 9, 1, 2) (0, 0) q.1 q.2) = true := by decide +kernel
theorem zk1_128 : zTok1 128 := fun r hr => by
  have e : r = (({ cls := "BeaconLines", name := "isLane", desc := "(I)Z" } : Jvm.MethodName), prog_1_method_42_code, 1, (Option.some Jvm.ClassFile.FieldType.boolean), 0, 0, 9, 1, 2) := (Option.some.inj hr).symm
  subst e
  exact ⟨fun pc t h => zAll zk_BL_isLane pc t h, rfl⟩
theorem zk_Mo_init : (zl_Mo_init.all fun c => c.2.all fun q => zChk (({ cls := "BeaconLinesModel", name := "<init>", desc := "()V" } : Jvm.MethodName), prog_12_method_1_code, 2, (Option.none : Option Jvm.ClassFile.FieldType), 1, 21, 10, 0, 1) (16, 1078) q.1 q.2) = true := by decide +kernel
theorem zk1_129 : zTok1 129 := fun r hr => by
  have e : r = (({ cls := "BeaconLinesModel", name := "<init>", desc := "()V" } : Jvm.MethodName), prog_12_method_1_code, 2, (Option.none : Option Jvm.ClassFile.FieldType), 1, 21, 10, 0, 1) := (Option.some.inj hr).symm
  subst e
  exact ⟨fun pc t h => zAll zk_Mo_init pc t h, rfl⟩
theorem zk_Mo_in : (zl_Mo_in.all fun c => c.2.all fun q => zChk (({ cls := "BeaconLinesModel", name := "in", desc := "(JJJ)Z" } : Jvm.MethodName), prog_12_method_3_code, 6, (Option.some Jvm.ClassFile.FieldType.boolean), 0, 0, 10, 3, 2) (0, 0) q.1 q.2) = true := by decide +kernel
theorem zk1_130 : zTok1 130 := fun r hr => by
  have e : r = (({ cls := "BeaconLinesModel", name := "in", desc := "(JJJ)Z" } : Jvm.MethodName), prog_12_method_3_code, 6, (Option.some Jvm.ClassFile.FieldType.boolean), 0, 0, 10, 3, 2) := (Option.some.inj hr).symm
  subst e
  exact ⟨fun pc t h => zAll zk_Mo_in pc t h, rfl⟩
theorem zk_Mo_flag : (zl_Mo_flag.all fun c => c.2.all fun q => zChk (({ cls := "BeaconLinesModel", name := "flag", desc := "(Z)I" } : Jvm.MethodName), prog_12_method_4_code, 1, (Option.some Jvm.ClassFile.FieldType.int), 0, 0, 10, 1, 2) (0, 0) q.1 q.2) = true := by decide +kernel
theorem zk1_131 : zTok1 131 := fun r hr => by
  have e : r = (({ cls := "BeaconLinesModel", name := "flag", desc := "(Z)I" } : Jvm.MethodName), prog_12_method_4_code, 1, (Option.some Jvm.ClassFile.FieldType.int), 0, 0, 10, 1, 2) := (Option.some.inj hr).symm
  subst e
  exact ⟨fun pc t h => zAll zk_Mo_flag pc t h, rfl⟩
theorem zk_Mo_empties : (zl_Mo_empties.all fun c => c.2.all fun q => zChk (({ cls := "BeaconLinesModel", name := "empties", desc := "([I)V" } : Jvm.MethodName), prog_12_method_5_code, 2, (Option.none : Option Jvm.ClassFile.FieldType), 0, 0, 10, 1, 2) (0, 0) q.1 q.2) = true := by decide +kernel
theorem zk1_132 : zTok1 132 := fun r hr => by
  have e : r = (({ cls := "BeaconLinesModel", name := "empties", desc := "([I)V" } : Jvm.MethodName), prog_12_method_5_code, 2, (Option.none : Option Jvm.ClassFile.FieldType), 0, 0, 10, 1, 2) := (Option.some.inj hr).symm
  subst e
  exact ⟨fun pc t h => zAll zk_Mo_empties pc t h, rfl⟩
theorem zk_Mo_at : (zl_Mo_at.all fun c => c.2.all fun q => zChk (({ cls := "BeaconLinesModel", name := "at", desc := "(II)I" } : Jvm.MethodName), prog_12_method_6_code, 2, (Option.some Jvm.ClassFile.FieldType.int), 0, 0, 10, 2, 2) (0, 0) q.1 q.2) = true := by decide +kernel
theorem zk1_133 : zTok1 133 := fun r hr => by
  have e : r = (({ cls := "BeaconLinesModel", name := "at", desc := "(II)I" } : Jvm.MethodName), prog_12_method_6_code, 2, (Option.some Jvm.ClassFile.FieldType.int), 0, 0, 10, 2, 2) := (Option.some.inj hr).symm
  subst e
  exact ⟨fun pc t h => zAll zk_Mo_at pc t h, rfl⟩
theorem zk_Mo_feed : (zl_Mo_feed.all fun c => c.2.all fun q => zChk (({ cls := "BeaconLinesModel", name := "feed", desc := "(I)I" } : Jvm.MethodName), prog_12_method_7_code, 2, (Option.some Jvm.ClassFile.FieldType.int), 1, 25, 10, 1, 0) (0, 0) q.1 q.2) = true := by decide +kernel
theorem zk1_134 : zTok1 134 := fun r hr => by
  have e : r = (({ cls := "BeaconLinesModel", name := "feed", desc := "(I)I" } : Jvm.MethodName), prog_12_method_7_code, 2, (Option.some Jvm.ClassFile.FieldType.int), 1, 25, 10, 1, 0) := (Option.some.inj hr).symm
  subst e
  exact ⟨fun pc t h => zAll zk_Mo_feed pc t h, rfl⟩
theorem zk_Mo_end : (zl_Mo_end.all fun c => c.2.all fun q => zChk (({ cls := "BeaconLinesModel", name := "end", desc := "(I)I" } : Jvm.MethodName), prog_12_method_8_code, 3, (Option.some Jvm.ClassFile.FieldType.int), 1, 25, 10, 1, 0) (0, 0) q.1 q.2) = true := by decide +kernel
theorem zk1_135 : zTok1 135 := fun r hr => by
  have e : r = (({ cls := "BeaconLinesModel", name := "end", desc := "(I)I" } : Jvm.MethodName), prog_12_method_8_code, 3, (Option.some Jvm.ClassFile.FieldType.int), 1, 25, 10, 1, 0) := (Option.some.inj hr).symm
  subst e
  exact ⟨fun pc t h => zAll zk_Mo_end pc t h, rfl⟩
theorem zk_Mo_requires : (zl_Mo_requires.all fun c => c.2.all fun q => zChk (({ cls := "BeaconLinesModel", name := "requires", desc := "(ZI)V" } : Jvm.MethodName), prog_12_method_9_code, 3, (Option.none : Option Jvm.ClassFile.FieldType), 0, 0, 10, 2, 0) (0, 0) q.1 q.2) = true := by decide +kernel
theorem zk1_136 : zTok1 136 := fun r hr => by
  have e : r = (({ cls := "BeaconLinesModel", name := "requires", desc := "(ZI)V" } : Jvm.MethodName), prog_12_method_9_code, 3, (Option.none : Option Jvm.ClassFile.FieldType), 0, 0, 10, 2, 0) := (Option.some.inj hr).symm
  subst e
  exact ⟨fun pc t h => zAll zk_Mo_requires pc t h, rfl⟩
theorem zk_Mo_byteAt : (zl_Mo_byteAt.all fun c => c.2.all fun q => zChk (({ cls := "BeaconLinesModel", name := "byteAt", desc := "(I)I" } : Jvm.MethodName), prog_12_method_10_code, 2, (Option.some Jvm.ClassFile.FieldType.int), 0, 0, 10, 1, 0) (0, 0) q.1 q.2) = true := by decide +kernel
theorem zk1_137 : zTok1 137 := fun r hr => by
  have e : r = (({ cls := "BeaconLinesModel", name := "byteAt", desc := "(I)I" } : Jvm.MethodName), prog_12_method_10_code, 2, (Option.some Jvm.ClassFile.FieldType.int), 0, 0, 10, 1, 0) := (Option.some.inj hr).symm
  subst e
  exact ⟨fun pc t h => zAll zk_Mo_byteAt pc t h, rfl⟩
theorem zk_Mo_is : (zl_Mo_is.all fun c => c.2.all fun q => zChk (({ cls := "BeaconLinesModel", name := "is", desc := "(IIII)Z" } : Jvm.MethodName), prog_12_method_11_code, 5, (Option.some Jvm.ClassFile.FieldType.boolean), 1, 21, 10, 4, 0) (0, 0) q.1 q.2) = true := by decide +kernel
theorem zk1_138 : zTok1 138 := fun r hr => by
  have e : r = (({ cls := "BeaconLinesModel", name := "is", desc := "(IIII)Z" } : Jvm.MethodName), prog_12_method_11_code, 5, (Option.some Jvm.ClassFile.FieldType.boolean), 1, 21, 10, 4, 0) := (Option.some.inj hr).symm
  subst e
  exact ⟨fun pc t h => zAll zk_Mo_is pc t h, rfl⟩
theorem zk_Mo_lineNow : (zl_Mo_lineNow.all fun c => c.2.all fun q => zChk (({ cls := "BeaconLinesModel", name := "lineNow", desc := "()I" } : Jvm.MethodName), prog_12_method_12_code, 1, (Option.some Jvm.ClassFile.FieldType.int), 2, 45, 10, 0, 0) (0, 0) q.1 q.2) = true := by decide +kernel
theorem zk1_139 : zTok1 139 := fun r hr => by
  have e : r = (({ cls := "BeaconLinesModel", name := "lineNow", desc := "()I" } : Jvm.MethodName), prog_12_method_12_code, 1, (Option.some Jvm.ClassFile.FieldType.int), 2, 45, 10, 0, 0) := (Option.some.inj hr).symm
  subst e
  exact ⟨fun pc t h => zAll zk_Mo_lineNow pc t h, rfl⟩
theorem zk_Mo_reads : (zl_Mo_reads.all fun c => c.2.all fun q => zChk (({ cls := "BeaconLinesModel", name := "reads", desc := "()V" } : Jvm.MethodName), prog_12_method_13_code, 2, (Option.none : Option Jvm.ClassFile.FieldType), 1, 25, 10, 0, 0) (0, 0) q.1 q.2) = true := by decide +kernel
theorem zk1_140 : zTok1 140 := fun r hr => by
  have e : r = (({ cls := "BeaconLinesModel", name := "reads", desc := "()V" } : Jvm.MethodName), prog_12_method_13_code, 2, (Option.none : Option Jvm.ClassFile.FieldType), 1, 25, 10, 0, 0) := (Option.some.inj hr).symm
  subst e
  exact ⟨fun pc t h => zAll zk_Mo_reads pc t h, rfl⟩
theorem zk_Mo_numberNow : (zl_Mo_numberNow.all fun c => c.2.all fun q => zChk (({ cls := "BeaconLinesModel", name := "numberNow", desc := "(II)I" } : Jvm.MethodName), prog_12_method_14_code, 3, (Option.some Jvm.ClassFile.FieldType.int), 1, 25, 10, 2, 0) (0, 0) q.1 q.2) = true := by decide +kernel
theorem zk1_141 : zTok1 141 := fun r hr => by
  have e : r = (({ cls := "BeaconLinesModel", name := "numberNow", desc := "(II)I" } : Jvm.MethodName), prog_12_method_14_code, 3, (Option.some Jvm.ClassFile.FieldType.int), 1, 25, 10, 2, 0) := (Option.some.inj hr).symm
  subst e
  exact ⟨fun pc t h => zAll zk_Mo_numberNow pc t h, rfl⟩
theorem zk_Mo_readNumber : (zl_Mo_readNumber.all fun c => c.2.all fun q => zChk (({ cls := "BeaconLinesModel", name := "readNumber", desc := "(II)I" } : Jvm.MethodName), prog_12_method_15_code, 4, (Option.some Jvm.ClassFile.FieldType.int), 2, 47, 10, 2, 0) (0, 0) q.1 q.2) = true := by decide +kernel
theorem zk1_142 : zTok1 142 := fun r hr => by
  have e : r = (({ cls := "BeaconLinesModel", name := "readNumber", desc := "(II)I" } : Jvm.MethodName), prog_12_method_15_code, 4, (Option.some Jvm.ClassFile.FieldType.int), 2, 47, 10, 2, 0) := (Option.some.inj hr).symm
  subst e
  exact ⟨fun pc t h => zAll zk_Mo_readNumber pc t h, rfl⟩
theorem zk_Mo_readStop : (zl_Mo_readStop.all fun c => c.2.all fun q => zChk (({ cls := "BeaconLinesModel", name := "readStop", desc := "()V" } : Jvm.MethodName), prog_12_method_16_code, 1, (Option.none : Option Jvm.ClassFile.FieldType), 2, 46, 10, 0, 0) (0, 0) q.1 q.2) = true := by decide +kernel
theorem zk1_143 : zTok1 143 := fun r hr => by
  have e : r = (({ cls := "BeaconLinesModel", name := "readStop", desc := "()V" } : Jvm.MethodName), prog_12_method_16_code, 1, (Option.none : Option Jvm.ClassFile.FieldType), 2, 46, 10, 0, 0) := (Option.some.inj hr).symm
  subst e
  exact ⟨fun pc t h => zAll zk_Mo_readStop pc t h, rfl⟩
theorem zk_Mo_readHear : (zl_Mo_readHear.all fun c => c.2.all fun q => zChk (({ cls := "BeaconLinesModel", name := "readHear", desc := "()V" } : Jvm.MethodName), prog_12_method_17_code, 4, (Option.none : Option Jvm.ClassFile.FieldType), 3, 70, 10, 0, 0) (0, 0) q.1 q.2) = true := by decide +kernel
theorem zk1_144 : zTok1 144 := fun r hr => by
  have e : r = (({ cls := "BeaconLinesModel", name := "readHear", desc := "()V" } : Jvm.MethodName), prog_12_method_17_code, 4, (Option.none : Option Jvm.ClassFile.FieldType), 3, 70, 10, 0, 0) := (Option.some.inj hr).symm
  subst e
  exact ⟨fun pc t h => zAll zk_Mo_readHear pc t h, rfl⟩
theorem zk_Mo_readLine : (zl_Mo_readLine.all fun c => c.2.all fun q => zChk (({ cls := "BeaconLinesModel", name := "readLine", desc := "()V" } : Jvm.MethodName), prog_12_method_18_code, 2, (Option.none : Option Jvm.ClassFile.FieldType), 4, 93, 10, 0, 0) (0, 0) q.1 q.2) = true := by decide +kernel
theorem zk1_145 : zTok1 145 := fun r hr => by
  have e : r = (({ cls := "BeaconLinesModel", name := "readLine", desc := "()V" } : Jvm.MethodName), prog_12_method_18_code, 2, (Option.none : Option Jvm.ClassFile.FieldType), 4, 93, 10, 0, 0) := (Option.some.inj hr).symm
  subst e
  exact ⟨fun pc t h => zAll zk_Mo_readLine pc t h, rfl⟩
theorem zk_Mo_text : (zl_Mo_text.all fun c => c.2.all fun q => zChk (({ cls := "BeaconLinesModel", name := "text", desc := "()I" } : Jvm.MethodName), prog_12_method_19_code, 2, (Option.some Jvm.ClassFile.FieldType.int), 5, 114, 10, 0, 0) (0, 0) q.1 q.2) = true := by decide +kernel
theorem zk1_146 : zTok1 146 := fun r hr => by
  have e : r = (({ cls := "BeaconLinesModel", name := "text", desc := "()I" } : Jvm.MethodName), prog_12_method_19_code, 2, (Option.some Jvm.ClassFile.FieldType.int), 5, 114, 10, 0, 0) := (Option.some.inj hr).symm
  subst e
  exact ⟨fun pc t h => zAll zk_Mo_text pc t h, rfl⟩
theorem zk_Mo_fault : (zl_Mo_fault.all fun c => c.2.all fun q => zChk (({ cls := "BeaconLinesModel", name := "fault", desc := "()I" } : Jvm.MethodName), prog_12_method_20_code, 1, (Option.some Jvm.ClassFile.FieldType.int), 0, 0, 10, 0, 0) (0, 0) q.1 q.2) = true := by decide +kernel
theorem zk1_147 : zTok1 147 := fun r hr => by
  have e : r = (({ cls := "BeaconLinesModel", name := "fault", desc := "()I" } : Jvm.MethodName), prog_12_method_20_code, 1, (Option.some Jvm.ClassFile.FieldType.int), 0, 0, 10, 0, 0) := (Option.some.inj hr).symm
  subst e
  exact ⟨fun pc t h => zAll zk_Mo_fault pc t h, rfl⟩
theorem zk_Mo_isClock : (zl_Mo_isClock.all fun c => c.2.all fun q => zChk (({ cls := "BeaconLinesModel", name := "isClock", desc := "(I)Z" } : Jvm.MethodName), prog_12_method_21_code, 2, (Option.some Jvm.ClassFile.FieldType.boolean), 1, 25, 10, 1, 0) (0, 0) q.1 q.2) = true := by decide +kernel
theorem zk1_148 : zTok1 148 := fun r hr => by
  have e : r = (({ cls := "BeaconLinesModel", name := "isClock", desc := "(I)Z" } : Jvm.MethodName), prog_12_method_21_code, 2, (Option.some Jvm.ClassFile.FieldType.boolean), 1, 25, 10, 1, 0) := (Option.some.inj hr).symm
  subst e
  exact ⟨fun pc t h => zAll zk_Mo_isClock pc t h, rfl⟩
theorem zk_Mo_isBeacon : (zl_Mo_isBeacon.all fun c => c.2.all fun q => zChk (({ cls := "BeaconLinesModel", name := "isBeacon", desc := "(I)Z" } : Jvm.MethodName), prog_12_method_22_code, 1, (Option.some Jvm.ClassFile.FieldType.boolean), 1, 25, 10, 1, 2) (0, 0) q.1 q.2) = true := by decide +kernel
theorem zk1_149 : zTok1 149 := fun r hr => by
  have e : r = (({ cls := "BeaconLinesModel", name := "isBeacon", desc := "(I)Z" } : Jvm.MethodName), prog_12_method_22_code, 1, (Option.some Jvm.ClassFile.FieldType.boolean), 1, 25, 10, 1, 2) := (Option.some.inj hr).symm
  subst e
  exact ⟨fun pc t h => zAll zk_Mo_isBeacon pc t h, rfl⟩
theorem zk_Mo_stampsOf : (zl_Mo_stampsOf.all fun c => c.2.all fun q => zChk (({ cls := "BeaconLinesModel", name := "stampsOf", desc := "(I)I" } : Jvm.MethodName), prog_12_method_23_code, 4, (Option.some Jvm.ClassFile.FieldType.int), 1, 21, 10, 1, 0) (0, 0) q.1 q.2) = true := by decide +kernel
theorem zk1_150 : zTok1 150 := fun r hr => by
  have e : r = (({ cls := "BeaconLinesModel", name := "stampsOf", desc := "(I)I" } : Jvm.MethodName), prog_12_method_23_code, 4, (Option.some Jvm.ClassFile.FieldType.int), 1, 21, 10, 1, 0) := (Option.some.inj hr).symm
  subst e
  exact ⟨fun pc t h => zAll zk_Mo_stampsOf pc t h, rfl⟩
theorem zk_Mo_stamps : (zl_Mo_stamps.all fun c => c.2.all fun q => zChk (({ cls := "BeaconLinesModel", name := "stamps", desc := "()I" } : Jvm.MethodName), prog_12_method_24_code, 3, (Option.some Jvm.ClassFile.FieldType.int), 2, 44, 10, 0, 0) (0, 0) q.1 q.2) = true := by decide +kernel
theorem zk1_151 : zTok1 151 := fun r hr => by
  have e : r = (({ cls := "BeaconLinesModel", name := "stamps", desc := "()I" } : Jvm.MethodName), prog_12_method_24_code, 3, (Option.some Jvm.ClassFile.FieldType.int), 2, 44, 10, 0, 0) := (Option.some.inj hr).symm
  subst e
  exact ⟨fun pc t h => zAll zk_Mo_stamps pc t h, rfl⟩
theorem zk_Mo_unheard : (zl_Mo_unheard.all fun c => c.2.all fun q => zChk (({ cls := "BeaconLinesModel", name := "unheard", desc := "()I" } : Jvm.MethodName), prog_12_method_25_code, 5, (Option.some Jvm.ClassFile.FieldType.int), 1, 21, 10, 0, 0) (0, 0) q.1 q.2) = true := by decide +kernel
theorem zk1_152 : zTok1 152 := fun r hr => by
  have e : r = (({ cls := "BeaconLinesModel", name := "unheard", desc := "()I" } : Jvm.MethodName), prog_12_method_25_code, 5, (Option.some Jvm.ClassFile.FieldType.int), 1, 21, 10, 0, 0) := (Option.some.inj hr).symm
  subst e
  exact ⟨fun pc t h => zAll zk_Mo_unheard pc t h, rfl⟩
theorem zk_Mo_rule : (zl_Mo_rule.all fun c => c.2.all fun q => zChk (({ cls := "BeaconLinesModel", name := "rule", desc := "(I)I" } : Jvm.MethodName), prog_12_method_26_code, 2, (Option.some Jvm.ClassFile.FieldType.int), 6, 136, 10, 1, 0) (0, 0) q.1 q.2) = true := by decide +kernel
theorem zk1_153 : zTok1 153 := fun r hr => by
  have e : r = (({ cls := "BeaconLinesModel", name := "rule", desc := "(I)I" } : Jvm.MethodName), prog_12_method_26_code, 2, (Option.some Jvm.ClassFile.FieldType.int), 6, 136, 10, 1, 0) := (Option.some.inj hr).symm
  subst e
  exact ⟨fun pc t h => zAll zk_Mo_rule pc t h, rfl⟩
theorem zk_Mo_stamp : (zl_Mo_stamp.all fun c => c.2.all fun q => zChk (({ cls := "BeaconLinesModel", name := "stamp", desc := "(II)I" } : Jvm.MethodName), prog_12_method_27_code, 3, (Option.some Jvm.ClassFile.FieldType.int), 2, 46, 10, 2, 0) (0, 0) q.1 q.2) = true := by decide +kernel
theorem zk1_154 : zTok1 154 := fun r hr => by
  have e : r = (({ cls := "BeaconLinesModel", name := "stamp", desc := "(II)I" } : Jvm.MethodName), prog_12_method_27_code, 3, (Option.some Jvm.ClassFile.FieldType.int), 2, 46, 10, 2, 0) := (Option.some.inj hr).symm
  subst e
  exact ⟨fun pc t h => zAll zk_Mo_stamp pc t h, rfl⟩
theorem zk_Mo_sums : (zl_Mo_sums.all fun c => c.2.all fun q => zChk (({ cls := "BeaconLinesModel", name := "sums", desc := "(II)V" } : Jvm.MethodName), prog_12_method_28_code, 12, (Option.none : Option Jvm.ClassFile.FieldType), 1, 21, 10, 2, 0) (0, 0) q.1 q.2) = true := by decide +kernel
theorem zk1_155 : zTok1 155 := fun r hr => by
  have e : r = (({ cls := "BeaconLinesModel", name := "sums", desc := "(II)V" } : Jvm.MethodName), prog_12_method_28_code, 12, (Option.none : Option Jvm.ClassFile.FieldType), 1, 21, 10, 2, 0) := (Option.some.inj hr).symm
  subst e
  exact ⟨fun pc t h => zAll zk_Mo_sums pc t h, rfl⟩
theorem zk_Mo_den : (zl_Mo_den.all fun c => c.2.all fun q => zChk (({ cls := "BeaconLinesModel", name := "den", desc := "()J" } : Jvm.MethodName), prog_12_method_29_code, 1, (Option.some Jvm.ClassFile.FieldType.long), 0, 0, 10, 0, 0) (0, 0) q.1 q.2) = true := by decide +kernel
theorem zk1_156 : zTok1 156 := fun r hr => by
  have e : r = (({ cls := "BeaconLinesModel", name := "den", desc := "()J" } : Jvm.MethodName), prog_12_method_29_code, 1, (Option.some Jvm.ClassFile.FieldType.long), 0, 0, 10, 0, 0) := (Option.some.inj hr).symm
  subst e
  exact ⟨fun pc t h => zAll zk_Mo_den pc t h, rfl⟩
theorem zk_Mo_farOf : (zl_Mo_farOf.all fun c => c.2.all fun q => zChk (({ cls := "BeaconLinesModel", name := "farOf", desc := "(III)J" } : Jvm.MethodName), prog_12_method_30_code, 6, (Option.some Jvm.ClassFile.FieldType.long), 1, 21, 10, 3, 0) (0, 0) q.1 q.2) = true := by decide +kernel
theorem zk1_157 : zTok1 157 := fun r hr => by
  have e : r = (({ cls := "BeaconLinesModel", name := "farOf", desc := "(III)J" } : Jvm.MethodName), prog_12_method_30_code, 6, (Option.some Jvm.ClassFile.FieldType.long), 1, 21, 10, 3, 0) := (Option.some.inj hr).symm
  subst e
  exact ⟨fun pc t h => zAll zk_Mo_farOf pc t h, rfl⟩
theorem zk_Mo_findsFarthest : (zl_Mo_findsFarthest.all fun c => c.2.all fun q => zChk (({ cls := "BeaconLinesModel", name := "findsFarthest", desc := "(II)V" } : Jvm.MethodName), prog_12_method_31_code, 4, (Option.none : Option Jvm.ClassFile.FieldType), 2, 46, 10, 2, 0) (0, 0) q.1 q.2) = true := by decide +kernel
theorem zk1_158 : zTok1 158 := fun r hr => by
  have e : r = (({ cls := "BeaconLinesModel", name := "findsFarthest", desc := "(II)V" } : Jvm.MethodName), prog_12_method_31_code, 4, (Option.none : Option Jvm.ClassFile.FieldType), 2, 46, 10, 2, 0) := (Option.some.inj hr).symm
  subst e
  exact ⟨fun pc t h => zAll zk_Mo_findsFarthest pc t h, rfl⟩
theorem zk_Mo_fits : (zl_Mo_fits.all fun c => c.2.all fun q => zChk (({ cls := "BeaconLinesModel", name := "fits", desc := "(II)V" } : Jvm.MethodName), prog_12_method_32_code, 4, (Option.none : Option Jvm.ClassFile.FieldType), 3, 69, 10, 2, 0) (0, 0) q.1 q.2) = true := by decide +kernel
theorem zk1_159 : zTok1 159 := fun r hr => by
  have e : r = (({ cls := "BeaconLinesModel", name := "fits", desc := "(II)V" } : Jvm.MethodName), prog_12_method_32_code, 4, (Option.none : Option Jvm.ClassFile.FieldType), 3, 69, 10, 2, 0) := (Option.some.inj hr).symm
  subst e
  exact ⟨fun pc t h => zAll zk_Mo_fits pc t h, rfl⟩
theorem zk_Mo_upBy : (zl_Mo_upBy.all fun c => c.2.all fun q => zChk (({ cls := "BeaconLinesModel", name := "upBy", desc := "(JJ)J" } : Jvm.MethodName), prog_12_method_33_code, 4, (Option.some Jvm.ClassFile.FieldType.long), 0, 0, 10, 2, 2) (0, 0) q.1 q.2) = true := by decide +kernel
theorem zk1_160 : zTok1 160 := fun r hr => by
  have e : r = (({ cls := "BeaconLinesModel", name := "upBy", desc := "(JJ)J" } : Jvm.MethodName), prog_12_method_33_code, 4, (Option.some Jvm.ClassFile.FieldType.long), 0, 0, 10, 2, 2) := (Option.some.inj hr).symm
  subst e
  exact ⟨fun pc t h => zAll zk_Mo_upBy pc t h, rfl⟩
theorem zk_Mo_costOfLine : (zl_Mo_costOfLine.all fun c => c.2.all fun q => zChk (({ cls := "BeaconLinesModel", name := "costOfLine", desc := "()I" } : Jvm.MethodName), prog_12_method_34_code, 1, (Option.some Jvm.ClassFile.FieldType.int), 1, 23, 10, 0, 0) (0, 0) q.1 q.2) = true := by decide +kernel
theorem zk1_161 : zTok1 161 := fun r hr => by
  have e : r = (({ cls := "BeaconLinesModel", name := "costOfLine", desc := "()I" } : Jvm.MethodName), prog_12_method_34_code, 1, (Option.some Jvm.ClassFile.FieldType.int), 1, 23, 10, 0, 0) := (Option.some.inj hr).symm
  subst e
  exact ⟨fun pc t h => zAll zk_Mo_costOfLine pc t h, rfl⟩
theorem zk_Mo_areTwo : (zl_Mo_areTwo.all fun c => c.2.all fun q => zChk (({ cls := "BeaconLinesModel", name := "areTwo", desc := "(II)Z" } : Jvm.MethodName), prog_12_method_35_code, 3, (Option.some Jvm.ClassFile.FieldType.boolean), 2, 46, 10, 2, 0) (0, 0) q.1 q.2) = true := by decide +kernel
theorem zk1_162 : zTok1 162 := fun r hr => by
  have e : r = (({ cls := "BeaconLinesModel", name := "areTwo", desc := "(II)Z" } : Jvm.MethodName), prog_12_method_35_code, 3, (Option.some Jvm.ClassFile.FieldType.boolean), 2, 46, 10, 2, 0) := (Option.some.inj hr).symm
  subst e
  exact ⟨fun pc t h => zAll zk_Mo_areTwo pc t h, rfl⟩
theorem zk_Mo_line : (zl_Mo_line.all fun c => c.2.all fun q => zChk (({ cls := "BeaconLinesModel", name := "line", desc := "(III)I" } : Jvm.MethodName), prog_12_method_36_code, 4, (Option.some Jvm.ClassFile.FieldType.int), 4, 92, 10, 3, 0) (0, 0) q.1 q.2) = true := by decide +kernel
theorem zk1_163 : zTok1 163 := fun r hr => by
  have e : r = (({ cls := "BeaconLinesModel", name := "line", desc := "(III)I" } : Jvm.MethodName), prog_12_method_36_code, 4, (Option.some Jvm.ClassFile.FieldType.int), 4, 92, 10, 3, 0) := (Option.some.inj hr).symm
  subst e
  exact ⟨fun pc t h => zAll zk_Mo_line pc t h, rfl⟩
theorem zk_Mo_sum : (zl_Mo_sum.all fun c => c.2.all fun q => zChk (({ cls := "BeaconLinesModel", name := "sum", desc := "(III)J" } : Jvm.MethodName), prog_12_method_37_code, 4, (Option.some Jvm.ClassFile.FieldType.long), 4, 92, 10, 3, 0) (0, 0) q.1 q.2) = true := by decide +kernel
theorem zk1_164 : zTok1 164 := fun r hr => by
  have e : r = (({ cls := "BeaconLinesModel", name := "sum", desc := "(III)J" } : Jvm.MethodName), prog_12_method_37_code, 4, (Option.some Jvm.ClassFile.FieldType.long), 4, 92, 10, 3, 0) := (Option.some.inj hr).symm
  subst e
  exact ⟨fun pc t h => zAll zk_Mo_sum pc t h, rfl⟩
theorem zk_Mo_struck : (zl_Mo_struck.all fun c => c.2.all fun q => zChk (({ cls := "BeaconLinesModel", name := "struck", desc := "(III)I" } : Jvm.MethodName), prog_12_method_38_code, 5, (Option.some Jvm.ClassFile.FieldType.int), 4, 92, 10, 3, 0) (0, 0) q.1 q.2) = true := by decide +kernel
theorem zk1_165 : zTok1 165 := fun r hr => by
  have e : r = (({ cls := "BeaconLinesModel", name := "struck", desc := "(III)I" } : Jvm.MethodName), prog_12_method_38_code, 5, (Option.some Jvm.ClassFile.FieldType.int), 4, 92, 10, 3, 0) := (Option.some.inj hr).symm
  subst e
  exact ⟨fun pc t h => zAll zk_Mo_struck pc t h, rfl⟩
theorem zk_Mo_far : (zl_Mo_far.all fun c => c.2.all fun q => zChk (({ cls := "BeaconLinesModel", name := "far", desc := "(III)J" } : Jvm.MethodName), prog_12_method_39_code, 4, (Option.some Jvm.ClassFile.FieldType.long), 4, 92, 10, 3, 0) (0, 0) q.1 q.2) = true := by decide +kernel
theorem zk1_166 : zTok1 166 := fun r hr => by
  have e : r = (({ cls := "BeaconLinesModel", name := "far", desc := "(III)J" } : Jvm.MethodName), prog_12_method_39_code, 4, (Option.some Jvm.ClassFile.FieldType.long), 4, 92, 10, 3, 0) := (Option.some.inj hr).symm
  subst e
  exact ⟨fun pc t h => zAll zk_Mo_far pc t h, rfl⟩
theorem zk_Mo_findsCosts : (zl_Mo_findsCosts.all fun c => c.2.all fun q => zChk (({ cls := "BeaconLinesModel", name := "findsCosts", desc := "()V" } : Jvm.MethodName), prog_12_method_40_code, 3, (Option.none : Option Jvm.ClassFile.FieldType), 4, 92, 10, 0, 0) (0, 0) q.1 q.2) = true := by decide +kernel
theorem zk1_167 : zTok1 167 := fun r hr => by
  have e : r = (({ cls := "BeaconLinesModel", name := "findsCosts", desc := "()V" } : Jvm.MethodName), prog_12_method_40_code, 3, (Option.none : Option Jvm.ClassFile.FieldType), 4, 92, 10, 0, 0) := (Option.some.inj hr).symm
  subst e
  exact ⟨fun pc t h => zAll zk_Mo_findsCosts pc t h, rfl⟩
theorem zk_Mo_isLess : (zl_Mo_isLess.all fun c => c.2.all fun q => zChk (({ cls := "BeaconLinesModel", name := "isLess", desc := "(II)Z" } : Jvm.MethodName), prog_12_method_41_code, 5, (Option.some Jvm.ClassFile.FieldType.boolean), 0, 0, 10, 2, 0) (0, 0) q.1 q.2) = true := by decide +kernel
theorem zk1_168 : zTok1 168 := fun r hr => by
  have e : r = (({ cls := "BeaconLinesModel", name := "isLess", desc := "(II)Z" } : Jvm.MethodName), prog_12_method_41_code, 5, (Option.some Jvm.ClassFile.FieldType.boolean), 0, 0, 10, 2, 0) := (Option.some.inj hr).symm
  subst e
  exact ⟨fun pc t h => zAll zk_Mo_isLess pc t h, rfl⟩
theorem zk_Mo_findsLeast : (zl_Mo_findsLeast.all fun c => c.2.all fun q => zChk (({ cls := "BeaconLinesModel", name := "findsLeast", desc := "(I)V" } : Jvm.MethodName), prog_12_method_42_code, 5, (Option.none : Option Jvm.ClassFile.FieldType), 1, 24, 10, 1, 0) (0, 0) q.1 q.2) = true := by decide +kernel
theorem zk1_169 : zTok1 169 := fun r hr => by
  have e : r = (({ cls := "BeaconLinesModel", name := "findsLeast", desc := "(I)V" } : Jvm.MethodName), prog_12_method_42_code, 5, (Option.none : Option Jvm.ClassFile.FieldType), 1, 24, 10, 1, 0) := (Option.some.inj hr).symm
  subst e
  exact ⟨fun pc t h => zAll zk_Mo_findsLeast pc t h, rfl⟩
theorem zk_Mo_findsChain : (zl_Mo_findsChain.all fun c => c.2.all fun q => zChk (({ cls := "BeaconLinesModel", name := "findsChain", desc := "(II)V" } : Jvm.MethodName), prog_12_method_43_code, 5, (Option.none : Option Jvm.ClassFile.FieldType), 5, 114, 10, 2, 0) (0, 0) q.1 q.2) = true := by decide +kernel
theorem zk1_170 : zTok1 170 := fun r hr => by
  have e : r = (({ cls := "BeaconLinesModel", name := "findsChain", desc := "(II)V" } : Jvm.MethodName), prog_12_method_43_code, 5, (Option.none : Option Jvm.ClassFile.FieldType), 5, 114, 10, 2, 0) := (Option.some.inj hr).symm
  subst e
  exact ⟨fun pc t h => zAll zk_Mo_findsChain pc t h, rfl⟩
theorem zk_Mo_reaches : (zl_Mo_reaches.all fun c => c.2.all fun q => zChk (({ cls := "BeaconLinesModel", name := "reaches", desc := "(I)I" } : Jvm.MethodName), prog_12_method_44_code, 4, (Option.some Jvm.ClassFile.FieldType.int), 2, 48, 10, 1, 0) (0, 0) q.1 q.2) = true := by decide +kernel
theorem zk1_171 : zTok1 171 := fun r hr => by
  have e : r = (({ cls := "BeaconLinesModel", name := "reaches", desc := "(I)I" } : Jvm.MethodName), prog_12_method_44_code, 4, (Option.some Jvm.ClassFile.FieldType.int), 2, 48, 10, 1, 0) := (Option.some.inj hr).symm
  subst e
  exact ⟨fun pc t h => zAll zk_Mo_reaches pc t h, rfl⟩
theorem zk_Mo_reachable : (zl_Mo_reachable.all fun c => c.2.all fun q => zChk (({ cls := "BeaconLinesModel", name := "reachable", desc := "()I" } : Jvm.MethodName), prog_12_method_45_code, 3, (Option.some Jvm.ClassFile.FieldType.int), 5, 114, 10, 0, 0) (0, 0) q.1 q.2) = true := by decide +kernel
theorem zk1_172 : zTok1 172 := fun r hr => by
  have e : r = (({ cls := "BeaconLinesModel", name := "reachable", desc := "()I" } : Jvm.MethodName), prog_12_method_45_code, 3, (Option.some Jvm.ClassFile.FieldType.int), 5, 114, 10, 0, 0) := (Option.some.inj hr).symm
  subst e
  exact ⟨fun pc t h => zAll zk_Mo_reachable pc t h, rfl⟩
theorem zk_Mo_ofLines : (zl_Mo_ofLines.all fun c => c.2.all fun q => zChk (({ cls := "BeaconLinesModel", name := "ofLines", desc := "(I)I" } : Jvm.MethodName), prog_12_method_46_code, 5, (Option.some Jvm.ClassFile.FieldType.int), 4, 92, 10, 1, 0) (0, 0) q.1 q.2) = true := by decide +kernel
theorem zk1_173 : zTok1 173 := fun r hr => by
  have e : r = (({ cls := "BeaconLinesModel", name := "ofLines", desc := "(I)I" } : Jvm.MethodName), prog_12_method_46_code, 5, (Option.some Jvm.ClassFile.FieldType.int), 4, 92, 10, 1, 0) := (Option.some.inj hr).symm
  subst e
  exact ⟨fun pc t h => zAll zk_Mo_ofLines pc t h, rfl⟩
theorem zk_Mo_goodOf : (zl_Mo_goodOf.all fun c => c.2.all fun q => zChk (({ cls := "BeaconLinesModel", name := "goodOf", desc := "(IZ)I" } : Jvm.MethodName), prog_12_method_47_code, 5, (Option.some Jvm.ClassFile.FieldType.int), 5, 114, 10, 2, 0) (0, 0) q.1 q.2) = true := by decide +kernel
theorem zk1_174 : zTok1 174 := fun r hr => by
  have e : r = (({ cls := "BeaconLinesModel", name := "goodOf", desc := "(IZ)I" } : Jvm.MethodName), prog_12_method_47_code, 5, (Option.some Jvm.ClassFile.FieldType.int), 5, 114, 10, 2, 0) := (Option.some.inj hr).symm
  subst e
  exact ⟨fun pc t h => zAll zk_Mo_goodOf pc t h, rfl⟩
theorem zk_Mo_clock : (zl_Mo_clock.all fun c => c.2.all fun q => zChk (({ cls := "BeaconLinesModel", name := "clock", desc := "(II)I" } : Jvm.MethodName), prog_12_method_48_code, 3, (Option.some Jvm.ClassFile.FieldType.int), 6, 138, 10, 2, 0) (0, 0) q.1 q.2) = true := by decide +kernel
theorem zk1_175 : zTok1 175 := fun r hr => by
  have e : r = (({ cls := "BeaconLinesModel", name := "clock", desc := "(II)I" } : Jvm.MethodName), prog_12_method_48_code, 3, (Option.some Jvm.ClassFile.FieldType.int), 6, 138, 10, 2, 0) := (Option.some.inj hr).symm
  subst e
  exact ⟨fun pc t h => zAll zk_Mo_clock pc t h, rfl⟩
theorem zk_Mo_cost : (zl_Mo_cost.all fun c => c.2.all fun q => zChk (({ cls := "BeaconLinesModel", name := "cost", desc := "(II)I" } : Jvm.MethodName), prog_12_method_49_code, 3, (Option.some Jvm.ClassFile.FieldType.int), 5, 114, 10, 2, 0) (0, 0) q.1 q.2) = true := by decide +kernel
theorem zk1_176 : zTok1 176 := fun r hr => by
  have e : r = (({ cls := "BeaconLinesModel", name := "cost", desc := "(II)I" } : Jvm.MethodName), prog_12_method_49_code, 3, (Option.some Jvm.ClassFile.FieldType.int), 5, 114, 10, 2, 0) := (Option.some.inj hr).symm
  subst e
  exact ⟨fun pc t h => zAll zk_Mo_cost pc t h, rfl⟩
theorem zk_Mo_chain : (zl_Mo_chain.all fun c => c.2.all fun q => zChk (({ cls := "BeaconLinesModel", name := "chain", desc := "(III)I" } : Jvm.MethodName), prog_12_method_50_code, 4, (Option.some Jvm.ClassFile.FieldType.int), 6, 138, 10, 3, 0) (0, 0) q.1 q.2) = true := by decide +kernel
theorem zk1_177 : zTok1 177 := fun r hr => by
  have e : r = (({ cls := "BeaconLinesModel", name := "chain", desc := "(III)I" } : Jvm.MethodName), prog_12_method_50_code, 4, (Option.some Jvm.ClassFile.FieldType.int), 6, 138, 10, 3, 0) := (Option.some.inj hr).symm
  subst e
  exact ⟨fun pc t h => zAll zk_Mo_chain pc t h, rfl⟩
theorem zk_Mo_times : (zl_Mo_times.all fun c => c.2.all fun q => zChk (({ cls := "BeaconLinesModel", name := "times", desc := "(JJ)J" } : Jvm.MethodName), prog_12_method_51_code, 7, (Option.some Jvm.ClassFile.FieldType.long), 0, 0, 10, 2, 0) (0, 0) q.1 q.2) = true := by decide +kernel
theorem zk1_178 : zTok1 178 := fun r hr => by
  have e : r = (({ cls := "BeaconLinesModel", name := "times", desc := "(JJ)J" } : Jvm.MethodName), prog_12_method_51_code, 7, (Option.some Jvm.ClassFile.FieldType.long), 0, 0, 10, 2, 0) := (Option.some.inj hr).symm
  subst e
  exact ⟨fun pc t h => zAll zk_Mo_times pc t h, rfl⟩
theorem zk_Mo_plus : (zl_Mo_plus.all fun c => c.2.all fun q => zChk (({ cls := "BeaconLinesModel", name := "plus", desc := "(JJ)J" } : Jvm.MethodName), prog_12_method_52_code, 7, (Option.some Jvm.ClassFile.FieldType.long), 0, 0, 10, 2, 0) (0, 0) q.1 q.2) = true := by decide +kernel
theorem zk1_179 : zTok1 179 := fun r hr => by
  have e : r = (({ cls := "BeaconLinesModel", name := "plus", desc := "(JJ)J" } : Jvm.MethodName), prog_12_method_52_code, 7, (Option.some Jvm.ClassFile.FieldType.long), 0, 0, 10, 2, 0) := (Option.some.inj hr).symm
  subst e
  exact ⟨fun pc t h => zAll zk_Mo_plus pc t h, rfl⟩
theorem zk_Mo_nearest : (zl_Mo_nearest.all fun c => c.2.all fun q => zChk (({ cls := "BeaconLinesModel", name := "nearest", desc := "(JJ)J" } : Jvm.MethodName), prog_12_method_53_code, 8, (Option.some Jvm.ClassFile.FieldType.long), 0, 0, 10, 2, 2) (0, 0) q.1 q.2) = true := by decide +kernel
theorem zk1_180 : zTok1 180 := fun r hr => by
  have e : r = (({ cls := "BeaconLinesModel", name := "nearest", desc := "(JJ)J" } : Jvm.MethodName), prog_12_method_53_code, 8, (Option.some Jvm.ClassFile.FieldType.long), 0, 0, 10, 2, 2) := (Option.some.inj hr).symm
  subst e
  exact ⟨fun pc t h => zAll zk_Mo_nearest pc t h, rfl⟩
theorem zk_Mo_takes : (zl_Mo_takes.all fun c => c.2.all fun q => zChk (({ cls := "BeaconLinesModel", name := "takes", desc := "(II)V" } : Jvm.MethodName), prog_12_method_54_code, 7, (Option.none : Option Jvm.ClassFile.FieldType), 4, 92, 10, 2, 0) (0, 0) q.1 q.2) = true := by decide +kernel
theorem zk1_181 : zTok1 181 := fun r hr => by
  have e : r = (({ cls := "BeaconLinesModel", name := "takes", desc := "(II)V" } : Jvm.MethodName), prog_12_method_54_code, 7, (Option.none : Option Jvm.ClassFile.FieldType), 4, 92, 10, 2, 0) := (Option.some.inj hr).symm
  subst e
  exact ⟨fun pc t h => zAll zk_Mo_takes pc t h, rfl⟩
theorem zk_Mo_goes : (zl_Mo_goes.all fun c => c.2.all fun q => zChk (({ cls := "BeaconLinesModel", name := "goes", desc := "(II)I" } : Jvm.MethodName), prog_12_method_55_code, 4, (Option.some Jvm.ClassFile.FieldType.int), 6, 138, 10, 2, 0) (0, 0) q.1 q.2) = true := by decide +kernel
theorem zk1_182 : zTok1 182 := fun r hr => by
  have e : r = (({ cls := "BeaconLinesModel", name := "goes", desc := "(II)I" } : Jvm.MethodName), prog_12_method_55_code, 4, (Option.some Jvm.ClassFile.FieldType.int), 6, 138, 10, 2, 0) := (Option.some.inj hr).symm
  subst e
  exact ⟨fun pc t h => zAll zk_Mo_goes pc t h, rfl⟩
theorem zk_Mo_reachesOne : (zl_Mo_reachesOne.all fun c => c.2.all fun q => zChk (({ cls := "BeaconLinesModel", name := "reachesOne", desc := "(II)Z" } : Jvm.MethodName), prog_12_method_56_code, 3, (Option.some Jvm.ClassFile.FieldType.boolean), 5, 114, 10, 2, 0) (0, 0) q.1 q.2) = true := by decide +kernel
theorem zk1_183 : zTok1 183 := fun r hr => by
  have e : r = (({ cls := "BeaconLinesModel", name := "reachesOne", desc := "(II)Z" } : Jvm.MethodName), prog_12_method_56_code, 3, (Option.some Jvm.ClassFile.FieldType.boolean), 5, 114, 10, 2, 0) := (Option.some.inj hr).symm
  subst e
  exact ⟨fun pc t h => zAll zk_Mo_reachesOne pc t h, rfl⟩
theorem zk_Mo_taken : (zl_Mo_taken.all fun c => c.2.all fun q => zChk (({ cls := "BeaconLinesModel", name := "taken", desc := "(IIJ)J" } : Jvm.MethodName), prog_12_method_57_code, 6, (Option.some Jvm.ClassFile.FieldType.long), 7, 161, 10, 3, 0) (0, 0) q.1 q.2) = true := by decide +kernel
theorem zk1_184 : zTok1 184 := fun r hr => by
  have e : r = (({ cls := "BeaconLinesModel", name := "taken", desc := "(IIJ)J" } : Jvm.MethodName), prog_12_method_57_code, 6, (Option.some Jvm.ClassFile.FieldType.long), 7, 161, 10, 3, 0) := (Option.some.inj hr).symm
  subst e
  exact ⟨fun pc t h => zAll zk_Mo_taken pc t h, rfl⟩
theorem zk_Mo_ok : (zl_Mo_ok.all fun c => c.2.all fun q => zChk (({ cls := "BeaconLinesModel", name := "ok", desc := "()I" } : Jvm.MethodName), prog_12_method_58_code, 1, (Option.some Jvm.ClassFile.FieldType.int), 0, 0, 10, 0, 0) (0, 0) q.1 q.2) = true := by decide +kernel
theorem zk1_185 : zTok1 185 := fun r hr => by
  have e : r = (({ cls := "BeaconLinesModel", name := "ok", desc := "()I" } : Jvm.MethodName), prog_12_method_58_code, 1, (Option.some Jvm.ClassFile.FieldType.int), 0, 0, 10, 0, 0) := (Option.some.inj hr).symm
  subst e
  exact ⟨fun pc t h => zAll zk_Mo_ok pc t h, rfl⟩
theorem zk_Mo_there : (zl_Mo_there.all fun c => c.2.all fun q => zChk (({ cls := "BeaconLinesModel", name := "there", desc := "(IIJ)J" } : Jvm.MethodName), prog_12_method_59_code, 7, (Option.some Jvm.ClassFile.FieldType.long), 7, 161, 10, 3, 0) (0, 0) q.1 q.2) = true := by decide +kernel
theorem zk1_186 : zTok1 186 := fun r hr => by
  have e : r = (({ cls := "BeaconLinesModel", name := "there", desc := "(IIJ)J" } : Jvm.MethodName), prog_12_method_59_code, 7, (Option.some Jvm.ClassFile.FieldType.long), 7, 161, 10, 3, 0) := (Option.some.inj hr).symm
  subst e
  exact ⟨fun pc t h => zAll zk_Mo_there pc t h, rfl⟩
theorem zk_Mo_hear : (zl_Mo_hear.all fun c => c.2.all fun q => zChk (({ cls := "BeaconLinesModel", name := "hear", desc := "(III)I" } : Jvm.MethodName), prog_12_method_60_code, 5, (Option.some Jvm.ClassFile.FieldType.int), 2, 46, 10, 3, 0) (0, 0) q.1 q.2) = true := by decide +kernel
theorem zk1_187 : zTok1 187 := fun r hr => by
  have e : r = (({ cls := "BeaconLinesModel", name := "hear", desc := "(III)I" } : Jvm.MethodName), prog_12_method_60_code, 5, (Option.some Jvm.ClassFile.FieldType.int), 2, 46, 10, 3, 0) := (Option.some.inj hr).symm
  subst e
  exact ⟨fun pc t h => zAll zk_Mo_hear pc t h, rfl⟩
theorem zk_Mo_lose : (zl_Mo_lose.all fun c => c.2.all fun q => zChk (({ cls := "BeaconLinesModel", name := "lose", desc := "(II)I" } : Jvm.MethodName), prog_12_method_61_code, 4, (Option.some Jvm.ClassFile.FieldType.int), 2, 46, 10, 2, 0) (0, 0) q.1 q.2) = true := by decide +kernel
theorem zk1_188 : zTok1 188 := fun r hr => by
  have e : r = (({ cls := "BeaconLinesModel", name := "lose", desc := "(II)I" } : Jvm.MethodName), prog_12_method_61_code, 4, (Option.some Jvm.ClassFile.FieldType.int), 2, 46, 10, 2, 0) := (Option.some.inj hr).symm
  subst e
  exact ⟨fun pc t h => zAll zk_Mo_lose pc t h, rfl⟩
theorem zk_Mo_shift : (zl_Mo_shift.all fun c => c.2.all fun q => zChk (({ cls := "BeaconLinesModel", name := "shift", desc := "(II)I" } : Jvm.MethodName), prog_12_method_62_code, 5, (Option.some Jvm.ClassFile.FieldType.int), 2, 46, 10, 2, 0) (0, 0) q.1 q.2) = true := by decide +kernel
theorem zk1_189 : zTok1 189 := fun r hr => by
  have e : r = (({ cls := "BeaconLinesModel", name := "shift", desc := "(II)I" } : Jvm.MethodName), prog_12_method_62_code, 5, (Option.some Jvm.ClassFile.FieldType.int), 2, 46, 10, 2, 0) := (Option.some.inj hr).symm
  subst e
  exact ⟨fun pc t h => zAll zk_Mo_shift pc t h, rfl⟩
theorem zk_Mo_set : (zl_Mo_set.all fun c => c.2.all fun q => zChk (({ cls := "BeaconLinesModel", name := "set", desc := "(II)I" } : Jvm.MethodName), prog_12_method_63_code, 4, (Option.some Jvm.ClassFile.FieldType.int), 1, 25, 10, 2, 0) (0, 0) q.1 q.2) = true := by decide +kernel
theorem zk1_190 : zTok1 190 := fun r hr => by
  have e : r = (({ cls := "BeaconLinesModel", name := "set", desc := "(II)I" } : Jvm.MethodName), prog_12_method_63_code, 4, (Option.some Jvm.ClassFile.FieldType.int), 1, 25, 10, 2, 0) := (Option.some.inj hr).symm
  subst e
  exact ⟨fun pc t h => zAll zk_Mo_set pc t h, rfl⟩
theorem zk_Mo_gets : (zl_Mo_gets.all fun c => c.2.all fun q => zChk (({ cls := "BeaconLinesModel", name := "gets", desc := "()I" } : Jvm.MethodName), prog_12_method_64_code, 1, (Option.some Jvm.ClassFile.FieldType.int), 0, 0, 10, 0, 0) (0, 0) q.1 q.2) = true := by decide +kernel
theorem zk1_191 : zTok1 191 := fun r hr => by
  have e : r = (({ cls := "BeaconLinesModel", name := "gets", desc := "()I" } : Jvm.MethodName), prog_12_method_64_code, 1, (Option.some Jvm.ClassFile.FieldType.int), 0, 0, 10, 0, 0) := (Option.some.inj hr).symm
  subst e
  exact ⟨fun pc t h => zAll zk_Mo_gets pc t h, rfl⟩
theorem zk_Mo_draw : (zl_Mo_draw.all fun c => c.2.all fun q => zChk (({ cls := "BeaconLinesModel", name := "draw", desc := "(II)I" } : Jvm.MethodName), prog_12_method_65_code, 8, (Option.some Jvm.ClassFile.FieldType.int), 3, 66, 10, 2, 0) (0, 0) q.1 q.2) = true := by decide +kernel
theorem zk1_192 : zTok1 192 := fun r hr => by
  have e : r = (({ cls := "BeaconLinesModel", name := "draw", desc := "(II)I" } : Jvm.MethodName), prog_12_method_65_code, 8, (Option.some Jvm.ClassFile.FieldType.int), 3, 66, 10, 2, 0) := (Option.some.inj hr).symm
  subst e
  exact ⟨fun pc t h => zAll zk_Mo_draw pc t h, rfl⟩
theorem zk_Mo_keep : (zl_Mo_keep.all fun c => c.2.all fun q => zChk (({ cls := "BeaconLinesModel", name := "keep", desc := "(I)I" } : Jvm.MethodName), prog_12_method_66_code, 4, (Option.some Jvm.ClassFile.FieldType.int), 1, 25, 10, 1, 0) (0, 0) q.1 q.2) = true := by decide +kernel
theorem zk1_193 : zTok1 193 := fun r hr => by
  have e : r = (({ cls := "BeaconLinesModel", name := "keep", desc := "(I)I" } : Jvm.MethodName), prog_12_method_66_code, 4, (Option.some Jvm.ClassFile.FieldType.int), 1, 25, 10, 1, 0) := (Option.some.inj hr).symm
  subst e
  exact ⟨fun pc t h => zAll zk_Mo_keep pc t h, rfl⟩
theorem zk_Mo_back : (zl_Mo_back.all fun c => c.2.all fun q => zChk (({ cls := "BeaconLinesModel", name := "back", desc := "(I)I" } : Jvm.MethodName), prog_12_method_67_code, 3, (Option.some Jvm.ClassFile.FieldType.int), 3, 66, 10, 1, 0) (0, 0) q.1 q.2) = true := by decide +kernel
theorem zk1_194 : zTok1 194 := fun r hr => by
  have e : r = (({ cls := "BeaconLinesModel", name := "back", desc := "(I)I" } : Jvm.MethodName), prog_12_method_67_code, 3, (Option.some Jvm.ClassFile.FieldType.int), 3, 66, 10, 1, 0) := (Option.some.inj hr).symm
  subst e
  exact ⟨fun pc t h => zAll zk_Mo_back pc t h, rfl⟩
theorem zk_Mo_isSheet : (zl_Mo_isSheet.all fun c => c.2.all fun q => zChk (({ cls := "BeaconLinesModel", name := "isSheet", desc := "(II)Z" } : Jvm.MethodName), prog_12_method_68_code, 2, (Option.some Jvm.ClassFile.FieldType.boolean), 1, 25, 10, 2, 2) (0, 0) q.1 q.2) = true := by decide +kernel
theorem zk1_195 : zTok1 195 := fun r hr => by
  have e : r = (({ cls := "BeaconLinesModel", name := "isSheet", desc := "(II)Z" } : Jvm.MethodName), prog_12_method_68_code, 2, (Option.some Jvm.ClassFile.FieldType.boolean), 1, 25, 10, 2, 2) := (Option.some.inj hr).symm
  subst e
  exact ⟨fun pc t h => zAll zk_Mo_isSheet pc t h, rfl⟩
theorem zk_Mo_sheet : (zl_Mo_sheet.all fun c => c.2.all fun q => zChk (({ cls := "BeaconLinesModel", name := "sheet", desc := "(III)I" } : Jvm.MethodName), prog_12_method_69_code, 5, (Option.some Jvm.ClassFile.FieldType.int), 2, 46, 10, 3, 0) (0, 0) q.1 q.2) = true := by decide +kernel
theorem zk1_196 : zTok1 196 := fun r hr => by
  have e : r = (({ cls := "BeaconLinesModel", name := "sheet", desc := "(III)I" } : Jvm.MethodName), prog_12_method_69_code, 5, (Option.some Jvm.ClassFile.FieldType.int), 2, 46, 10, 3, 0) := (Option.some.inj hr).symm
  subst e
  exact ⟨fun pc t h => zAll zk_Mo_sheet pc t h, rfl⟩
theorem zk_Mo_lay : (zl_Mo_lay.all fun c => c.2.all fun q => zChk (({ cls := "BeaconLinesModel", name := "lay", desc := "(III)I" } : Jvm.MethodName), prog_12_method_70_code, 4, (Option.some Jvm.ClassFile.FieldType.int), 2, 46, 10, 3, 0) (0, 0) q.1 q.2) = true := by decide +kernel
theorem zk1_197 : zTok1 197 := fun r hr => by
  have e : r = (({ cls := "BeaconLinesModel", name := "lay", desc := "(III)I" } : Jvm.MethodName), prog_12_method_70_code, 4, (Option.some Jvm.ClassFile.FieldType.int), 2, 46, 10, 3, 0) := (Option.some.inj hr).symm
  subst e
  exact ⟨fun pc t h => zAll zk_Mo_lay pc t h, rfl⟩
theorem zk_Mo_read : (zl_Mo_read.all fun c => c.2.all fun q => zChk (({ cls := "BeaconLinesModel", name := "read", desc := "(IIIII)I" } : Jvm.MethodName), prog_12_method_71_code, 10, (Option.some Jvm.ClassFile.FieldType.int), 2, 46, 10, 5, 0) (0, 0) q.1 q.2) = true := by decide +kernel
theorem zk1_198 : zTok1 198 := fun r hr => by
  have e : r = (({ cls := "BeaconLinesModel", name := "read", desc := "(IIIII)I" } : Jvm.MethodName), prog_12_method_71_code, 10, (Option.some Jvm.ClassFile.FieldType.int), 2, 46, 10, 5, 0) := (Option.some.inj hr).symm
  subst e
  exact ⟨fun pc t h => zAll zk_Mo_read pc t h, rfl⟩
theorem zk_Mo_count : (zl_Mo_count.all fun c => c.2.all fun q => zChk (({ cls := "BeaconLinesModel", name := "count", desc := "(I)I" } : Jvm.MethodName), prog_12_method_72_code, 2, (Option.some Jvm.ClassFile.FieldType.int), 1, 20, 10, 1, 0) (0, 0) q.1 q.2) = true := by decide +kernel
theorem zk1_199 : zTok1 199 := fun r hr => by
  have e : r = (({ cls := "BeaconLinesModel", name := "count", desc := "(I)I" } : Jvm.MethodName), prog_12_method_72_code, 2, (Option.some Jvm.ClassFile.FieldType.int), 1, 20, 10, 1, 0) := (Option.some.inj hr).symm
  subst e
  exact ⟨fun pc t h => zAll zk_Mo_count pc t h, rfl⟩
theorem zkg_0 : ∀ y ∈ ([0, 1, 2, 3, 4, 5, 6, 7, 8, 9, 10, 11, 12, 13, 14, 15] : List Nat), zTok1 y := List.forall_mem_cons.mpr ⟨zk1_0, List.forall_mem_cons.mpr ⟨zk1_1, List.forall_mem_cons.mpr ⟨zk1_2, List.forall_mem_cons.mpr ⟨zk1_3, List.forall_mem_cons.mpr ⟨zk1_4, List.forall_mem_cons.mpr ⟨zk1_5, List.forall_mem_cons.mpr ⟨zk1_6, List.forall_mem_cons.mpr ⟨zk1_7, List.forall_mem_cons.mpr ⟨zk1_8, List.forall_mem_cons.mpr ⟨zk1_9, List.forall_mem_cons.mpr ⟨zk1_10, List.forall_mem_cons.mpr ⟨zk1_11, List.forall_mem_cons.mpr ⟨zk1_12, List.forall_mem_cons.mpr ⟨zk1_13, List.forall_mem_cons.mpr ⟨zk1_14, List.forall_mem_cons.mpr ⟨zk1_15, fun _ h => absurd h List.not_mem_nil⟩⟩⟩⟩⟩⟩⟩⟩⟩⟩⟩⟩⟩⟩⟩⟩
theorem zkg_1 : ∀ y ∈ ([16, 17, 18, 19, 20, 21, 22, 23, 24, 25, 26, 27, 28, 29, 30, 31] : List Nat), zTok1 y := List.forall_mem_cons.mpr ⟨zk1_16, List.forall_mem_cons.mpr ⟨zk1_17, List.forall_mem_cons.mpr ⟨zk1_18, List.forall_mem_cons.mpr ⟨zk1_19, List.forall_mem_cons.mpr ⟨zk1_20, List.forall_mem_cons.mpr ⟨zk1_21, List.forall_mem_cons.mpr ⟨zk1_22, List.forall_mem_cons.mpr ⟨zk1_23, List.forall_mem_cons.mpr ⟨zk1_24, List.forall_mem_cons.mpr ⟨zk1_25, List.forall_mem_cons.mpr ⟨zk1_26, List.forall_mem_cons.mpr ⟨zk1_27, List.forall_mem_cons.mpr ⟨zk1_28, List.forall_mem_cons.mpr ⟨zk1_29, List.forall_mem_cons.mpr ⟨zk1_30, List.forall_mem_cons.mpr ⟨zk1_31, fun _ h => absurd h List.not_mem_nil⟩⟩⟩⟩⟩⟩⟩⟩⟩⟩⟩⟩⟩⟩⟩⟩
theorem zkg_2 : ∀ y ∈ ([32, 33, 34, 35, 36, 37, 38, 39, 40, 41, 42, 43, 44, 45, 46, 47] : List Nat), zTok1 y := List.forall_mem_cons.mpr ⟨zk1_32, List.forall_mem_cons.mpr ⟨zk1_33, List.forall_mem_cons.mpr ⟨zk1_34, List.forall_mem_cons.mpr ⟨zk1_35, List.forall_mem_cons.mpr ⟨zk1_36, List.forall_mem_cons.mpr ⟨zk1_37, List.forall_mem_cons.mpr ⟨zk1_38, List.forall_mem_cons.mpr ⟨zk1_39, List.forall_mem_cons.mpr ⟨zk1_40, List.forall_mem_cons.mpr ⟨zk1_41, List.forall_mem_cons.mpr ⟨zk1_42, List.forall_mem_cons.mpr ⟨zk1_43, List.forall_mem_cons.mpr ⟨zk1_44, List.forall_mem_cons.mpr ⟨zk1_45, List.forall_mem_cons.mpr ⟨zk1_46, List.forall_mem_cons.mpr ⟨zk1_47, fun _ h => absurd h List.not_mem_nil⟩⟩⟩⟩⟩⟩⟩⟩⟩⟩⟩⟩⟩⟩⟩⟩
theorem zkg_3 : ∀ y ∈ ([48, 49, 50, 51, 52, 53, 54, 55, 56, 57, 58, 59, 60, 61, 62, 63] : List Nat), zTok1 y := List.forall_mem_cons.mpr ⟨zk1_48, List.forall_mem_cons.mpr ⟨zk1_49, List.forall_mem_cons.mpr ⟨zk1_50, List.forall_mem_cons.mpr ⟨zk1_51, List.forall_mem_cons.mpr ⟨zk1_52, List.forall_mem_cons.mpr ⟨zk1_53, List.forall_mem_cons.mpr ⟨zk1_54, List.forall_mem_cons.mpr ⟨zk1_55, List.forall_mem_cons.mpr ⟨zk1_56, List.forall_mem_cons.mpr ⟨zk1_57, List.forall_mem_cons.mpr ⟨zk1_58, List.forall_mem_cons.mpr ⟨zk1_59, List.forall_mem_cons.mpr ⟨zk1_60, List.forall_mem_cons.mpr ⟨zk1_61, List.forall_mem_cons.mpr ⟨zk1_62, List.forall_mem_cons.mpr ⟨zk1_63, fun _ h => absurd h List.not_mem_nil⟩⟩⟩⟩⟩⟩⟩⟩⟩⟩⟩⟩⟩⟩⟩⟩
theorem zkg_4 : ∀ y ∈ ([64, 65, 66, 67, 68, 69, 70, 71, 72, 73, 74, 75, 76, 77, 78, 79] : List Nat), zTok1 y := List.forall_mem_cons.mpr ⟨zk1_64, List.forall_mem_cons.mpr ⟨zk1_65, List.forall_mem_cons.mpr ⟨zk1_66, List.forall_mem_cons.mpr ⟨zk1_67, List.forall_mem_cons.mpr ⟨zk1_68, List.forall_mem_cons.mpr ⟨zk1_69, List.forall_mem_cons.mpr ⟨zk1_70, List.forall_mem_cons.mpr ⟨zk1_71, List.forall_mem_cons.mpr ⟨zk1_72, List.forall_mem_cons.mpr ⟨zk1_73, List.forall_mem_cons.mpr ⟨zk1_74, List.forall_mem_cons.mpr ⟨zk1_75, List.forall_mem_cons.mpr ⟨zk1_76, List.forall_mem_cons.mpr ⟨zk1_77, List.forall_mem_cons.mpr ⟨zk1_78, List.forall_mem_cons.mpr ⟨zk1_79, fun _ h => absurd h List.not_mem_nil⟩⟩⟩⟩⟩⟩⟩⟩⟩⟩⟩⟩⟩⟩⟩⟩
theorem zkg_5 : ∀ y ∈ ([80, 81, 82, 83, 84, 85, 86, 87, 88, 89, 90, 91, 92, 93, 94, 95] : List Nat), zTok1 y := List.forall_mem_cons.mpr ⟨zk1_80, List.forall_mem_cons.mpr ⟨zk1_81, List.forall_mem_cons.mpr ⟨zk1_82, List.forall_mem_cons.mpr ⟨zk1_83, List.forall_mem_cons.mpr ⟨zk1_84, List.forall_mem_cons.mpr ⟨zk1_85, List.forall_mem_cons.mpr ⟨zk1_86, List.forall_mem_cons.mpr ⟨zk1_87, List.forall_mem_cons.mpr ⟨zk1_88, List.forall_mem_cons.mpr ⟨zk1_89, List.forall_mem_cons.mpr ⟨zk1_90, List.forall_mem_cons.mpr ⟨zk1_91, List.forall_mem_cons.mpr ⟨zk1_92, List.forall_mem_cons.mpr ⟨zk1_93, List.forall_mem_cons.mpr ⟨zk1_94, List.forall_mem_cons.mpr ⟨zk1_95, fun _ h => absurd h List.not_mem_nil⟩⟩⟩⟩⟩⟩⟩⟩⟩⟩⟩⟩⟩⟩⟩⟩
theorem zkg_6 : ∀ y ∈ ([96, 97, 98, 99, 100, 101, 102, 103, 104, 105, 106, 107, 108, 109, 110, 111] : List Nat), zTok1 y := List.forall_mem_cons.mpr ⟨zk1_96, List.forall_mem_cons.mpr ⟨zk1_97, List.forall_mem_cons.mpr ⟨zk1_98, List.forall_mem_cons.mpr ⟨zk1_99, List.forall_mem_cons.mpr ⟨zk1_100, List.forall_mem_cons.mpr ⟨zk1_101, List.forall_mem_cons.mpr ⟨zk1_102, List.forall_mem_cons.mpr ⟨zk1_103, List.forall_mem_cons.mpr ⟨zk1_104, List.forall_mem_cons.mpr ⟨zk1_105, List.forall_mem_cons.mpr ⟨zk1_106, List.forall_mem_cons.mpr ⟨zk1_107, List.forall_mem_cons.mpr ⟨zk1_108, List.forall_mem_cons.mpr ⟨zk1_109, List.forall_mem_cons.mpr ⟨zk1_110, List.forall_mem_cons.mpr ⟨zk1_111, fun _ h => absurd h List.not_mem_nil⟩⟩⟩⟩⟩⟩⟩⟩⟩⟩⟩⟩⟩⟩⟩⟩
theorem zkg_7 : ∀ y ∈ ([112, 113, 114, 115, 116, 117, 118, 119, 120, 121, 122, 123, 124, 125, 126, 127] : List Nat), zTok1 y := List.forall_mem_cons.mpr ⟨zk1_112, List.forall_mem_cons.mpr ⟨zk1_113, List.forall_mem_cons.mpr ⟨zk1_114, List.forall_mem_cons.mpr ⟨zk1_115, List.forall_mem_cons.mpr ⟨zk1_116, List.forall_mem_cons.mpr ⟨zk1_117, List.forall_mem_cons.mpr ⟨zk1_118, List.forall_mem_cons.mpr ⟨zk1_119, List.forall_mem_cons.mpr ⟨zk1_120, List.forall_mem_cons.mpr ⟨zk1_121, List.forall_mem_cons.mpr ⟨zk1_122, List.forall_mem_cons.mpr ⟨zk1_123, List.forall_mem_cons.mpr ⟨zk1_124, List.forall_mem_cons.mpr ⟨zk1_125, List.forall_mem_cons.mpr ⟨zk1_126, List.forall_mem_cons.mpr ⟨zk1_127, fun _ h => absurd h List.not_mem_nil⟩⟩⟩⟩⟩⟩⟩⟩⟩⟩⟩⟩⟩⟩⟩⟩
theorem zkg_8 : ∀ y ∈ ([128, 129, 130, 131, 132, 133, 134, 135, 136, 137, 138, 139, 140, 141, 142, 143] : List Nat), zTok1 y := List.forall_mem_cons.mpr ⟨zk1_128, List.forall_mem_cons.mpr ⟨zk1_129, List.forall_mem_cons.mpr ⟨zk1_130, List.forall_mem_cons.mpr ⟨zk1_131, List.forall_mem_cons.mpr ⟨zk1_132, List.forall_mem_cons.mpr ⟨zk1_133, List.forall_mem_cons.mpr ⟨zk1_134, List.forall_mem_cons.mpr ⟨zk1_135, List.forall_mem_cons.mpr ⟨zk1_136, List.forall_mem_cons.mpr ⟨zk1_137, List.forall_mem_cons.mpr ⟨zk1_138, List.forall_mem_cons.mpr ⟨zk1_139, List.forall_mem_cons.mpr ⟨zk1_140, List.forall_mem_cons.mpr ⟨zk1_141, List.forall_mem_cons.mpr ⟨zk1_142, List.forall_mem_cons.mpr ⟨zk1_143, fun _ h => absurd h List.not_mem_nil⟩⟩⟩⟩⟩⟩⟩⟩⟩⟩⟩⟩⟩⟩⟩⟩
theorem zkg_9 : ∀ y ∈ ([144, 145, 146, 147, 148, 149, 150, 151, 152, 153, 154, 155, 156, 157, 158, 159] : List Nat), zTok1 y := List.forall_mem_cons.mpr ⟨zk1_144, List.forall_mem_cons.mpr ⟨zk1_145, List.forall_mem_cons.mpr ⟨zk1_146, List.forall_mem_cons.mpr ⟨zk1_147, List.forall_mem_cons.mpr ⟨zk1_148, List.forall_mem_cons.mpr ⟨zk1_149, List.forall_mem_cons.mpr ⟨zk1_150, List.forall_mem_cons.mpr ⟨zk1_151, List.forall_mem_cons.mpr ⟨zk1_152, List.forall_mem_cons.mpr ⟨zk1_153, List.forall_mem_cons.mpr ⟨zk1_154, List.forall_mem_cons.mpr ⟨zk1_155, List.forall_mem_cons.mpr ⟨zk1_156, List.forall_mem_cons.mpr ⟨zk1_157, List.forall_mem_cons.mpr ⟨zk1_158, List.forall_mem_cons.mpr ⟨zk1_159, fun _ h => absurd h List.not_mem_nil⟩⟩⟩⟩⟩⟩⟩⟩⟩⟩⟩⟩⟩⟩⟩⟩
theorem zkg_10 : ∀ y ∈ ([160, 161, 162, 163, 164, 165, 166, 167, 168, 169, 170, 171, 172, 173, 174, 175] : List Nat), zTok1 y := List.forall_mem_cons.mpr ⟨zk1_160, List.forall_mem_cons.mpr ⟨zk1_161, List.forall_mem_cons.mpr ⟨zk1_162, List.forall_mem_cons.mpr ⟨zk1_163, List.forall_mem_cons.mpr ⟨zk1_164, List.forall_mem_cons.mpr ⟨zk1_165, List.forall_mem_cons.mpr ⟨zk1_166, List.forall_mem_cons.mpr ⟨zk1_167, List.forall_mem_cons.mpr ⟨zk1_168, List.forall_mem_cons.mpr ⟨zk1_169, List.forall_mem_cons.mpr ⟨zk1_170, List.forall_mem_cons.mpr ⟨zk1_171, List.forall_mem_cons.mpr ⟨zk1_172, List.forall_mem_cons.mpr ⟨zk1_173, List.forall_mem_cons.mpr ⟨zk1_174, List.forall_mem_cons.mpr ⟨zk1_175, fun _ h => absurd h List.not_mem_nil⟩⟩⟩⟩⟩⟩⟩⟩⟩⟩⟩⟩⟩⟩⟩⟩
theorem zkg_11 : ∀ y ∈ ([176, 177, 178, 179, 180, 181, 182, 183, 184, 185, 186, 187, 188, 189, 190, 191] : List Nat), zTok1 y := List.forall_mem_cons.mpr ⟨zk1_176, List.forall_mem_cons.mpr ⟨zk1_177, List.forall_mem_cons.mpr ⟨zk1_178, List.forall_mem_cons.mpr ⟨zk1_179, List.forall_mem_cons.mpr ⟨zk1_180, List.forall_mem_cons.mpr ⟨zk1_181, List.forall_mem_cons.mpr ⟨zk1_182, List.forall_mem_cons.mpr ⟨zk1_183, List.forall_mem_cons.mpr ⟨zk1_184, List.forall_mem_cons.mpr ⟨zk1_185, List.forall_mem_cons.mpr ⟨zk1_186, List.forall_mem_cons.mpr ⟨zk1_187, List.forall_mem_cons.mpr ⟨zk1_188, List.forall_mem_cons.mpr ⟨zk1_189, List.forall_mem_cons.mpr ⟨zk1_190, List.forall_mem_cons.mpr ⟨zk1_191, fun _ h => absurd h List.not_mem_nil⟩⟩⟩⟩⟩⟩⟩⟩⟩⟩⟩⟩⟩⟩⟩⟩
theorem zkg_12 : ∀ y ∈ ([192, 193, 194, 195, 196, 197, 198, 199] : List Nat), zTok1 y := List.forall_mem_cons.mpr ⟨zk1_192, List.forall_mem_cons.mpr ⟨zk1_193, List.forall_mem_cons.mpr ⟨zk1_194, List.forall_mem_cons.mpr ⟨zk1_195, List.forall_mem_cons.mpr ⟨zk1_196, List.forall_mem_cons.mpr ⟨zk1_197, List.forall_mem_cons.mpr ⟨zk1_198, List.forall_mem_cons.mpr ⟨zk1_199, fun _ h => absurd h List.not_mem_nil⟩⟩⟩⟩⟩⟩⟩⟩
theorem zk_all : ∀ y, y < 200 → zTok1 y := by
  have h : ∀ y ∈ ([0, 1, 2, 3, 4, 5, 6, 7, 8, 9, 10, 11, 12, 13, 14, 15] ++ ([16, 17, 18, 19, 20, 21, 22, 23, 24, 25, 26, 27, 28, 29, 30, 31] ++ ([32, 33, 34, 35, 36, 37, 38, 39, 40, 41, 42, 43, 44, 45, 46, 47] ++ ([48, 49, 50, 51, 52, 53, 54, 55, 56, 57, 58, 59, 60, 61, 62, 63] ++ ([64, 65, 66, 67, 68, 69, 70, 71, 72, 73, 74, 75, 76, 77, 78, 79] ++ ([80, 81, 82, 83, 84, 85, 86, 87, 88, 89, 90, 91, 92, 93, 94, 95] ++ ([96, 97, 98, 99, 100, 101, 102, 103, 104, 105, 106, 107, 108, 109, 110, 111] ++ ([112, 113, 114, 115, 116, 117, 118, 119, 120, 121, 122, 123, 124, 125, 126, 127] ++ ([128, 129, 130, 131, 132, 133, 134, 135, 136, 137, 138, 139, 140, 141, 142, 143] ++ ([144, 145, 146, 147, 148, 149, 150, 151, 152, 153, 154, 155, 156, 157, 158, 159] ++ ([160, 161, 162, 163, 164, 165, 166, 167, 168, 169, 170, 171, 172, 173, 174, 175] ++ ([176, 177, 178, 179, 180, 181, 182, 183, 184, 185, 186, 187, 188, 189, 190, 191] ++ ([192, 193, 194, 195, 196, 197, 198, 199])))))))))))) : List Nat), zTok1 y := List.forall_mem_append.mpr ⟨zkg_0, List.forall_mem_append.mpr ⟨zkg_1, List.forall_mem_append.mpr ⟨zkg_2, List.forall_mem_append.mpr ⟨zkg_3, List.forall_mem_append.mpr ⟨zkg_4, List.forall_mem_append.mpr ⟨zkg_5, List.forall_mem_append.mpr ⟨zkg_6, List.forall_mem_append.mpr ⟨zkg_7, List.forall_mem_append.mpr ⟨zkg_8, List.forall_mem_append.mpr ⟨zkg_9, List.forall_mem_append.mpr ⟨zkg_10, List.forall_mem_append.mpr ⟨zkg_11, zkg_12⟩⟩⟩⟩⟩⟩⟩⟩⟩⟩⟩⟩
  have e : ([0, 1, 2, 3, 4, 5, 6, 7, 8, 9, 10, 11, 12, 13, 14, 15] ++ ([16, 17, 18, 19, 20, 21, 22, 23, 24, 25, 26, 27, 28, 29, 30, 31] ++ ([32, 33, 34, 35, 36, 37, 38, 39, 40, 41, 42, 43, 44, 45, 46, 47] ++ ([48, 49, 50, 51, 52, 53, 54, 55, 56, 57, 58, 59, 60, 61, 62, 63] ++ ([64, 65, 66, 67, 68, 69, 70, 71, 72, 73, 74, 75, 76, 77, 78, 79] ++ ([80, 81, 82, 83, 84, 85, 86, 87, 88, 89, 90, 91, 92, 93, 94, 95] ++ ([96, 97, 98, 99, 100, 101, 102, 103, 104, 105, 106, 107, 108, 109, 110, 111] ++ ([112, 113, 114, 115, 116, 117, 118, 119, 120, 121, 122, 123, 124, 125, 126, 127] ++ ([128, 129, 130, 131, 132, 133, 134, 135, 136, 137, 138, 139, 140, 141, 142, 143] ++ ([144, 145, 146, 147, 148, 149, 150, 151, 152, 153, 154, 155, 156, 157, 158, 159] ++ ([160, 161, 162, 163, 164, 165, 166, 167, 168, 169, 170, 171, 172, 173, 174, 175] ++ ([176, 177, 178, 179, 180, 181, 182, 183, 184, 185, 186, 187, 188, 189, 190, 191] ++ ([192, 193, 194, 195, 196, 197, 198, 199])))))))))))) : List Nat) = List.range 200 := by decide +kernel
  rw [e] at h
  exact fun y hy => h y (List.mem_range.mpr hy)
