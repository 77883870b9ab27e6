theorem zDc_spec {r : zRec} {pc : Nat} {ins : Instr} {nx L : Nat} (h : zDc r pc ins nx L = true) : decode (zrB r) pc = .ok (ins, L) ∧ nx = pc + L := by
  simp only [zDc, Bool.and_eq_true, decide_eq_true_eq] at h
  exact h
def zWs (q : zRec) : List Cond := Cond.code q.1 (zrB q) (zrL q) (zrT q) :: zGW
def zRm (z : Nat) (q : zRec) : Room := { frames := zrF q, cells := (zT z).2.1.1, slots := (zT z).2.1.2, locals := zrW q }
def zQc (G : zGl) (K : zQ) (h : zH) (B : Nat × Nat) : Array Value → State → Outcome → State → Prop := fun _ _ o t => ∃ (v : Option Value) (h' : zH), o = .returned (v.map (zTr G)) ∧ K v h' ∧ zRel G h' t.heap ∧ h'.1 = (h.1.1 + B.1, h.1.2 + B.2)
def zMeet (l : Launch) (G : zGl) (z : Nat) (as : List Value) (h : zH) (K : zQ) : Prop := ∀ q, zMs[z]? = some q → Met l q.1 (zWs q) (zRm z q) (va_Pc (as.map (zTr G)) (fun U => zRel G h U.heap ∧ zEv G U)) (zQc G K h (zT z).2.1) (zT z).2.1.1 (zT z).2.1.2 (fun a => zgn G ≤ a)
def zCx (G : zGl) (p : Program) (R : Room) (s : State) (m : MethodId) (args : Array Value) (meth : Method) (c : Code) (r : zRec) (B : Nat × Nat) : Prop :=
  p.tables.exec = Jvm.exec ∧ c.code = zrB r ∧ c.maxLocals = zrL r ∧ (∃ O, zOwn[zrO r]? = some O ∧ s.vm.findClass O = some m.cls) ∧ (∀ w ∈ zGW, w.before args s = true) ∧ (r.1.name = "<init>" → meth.name = "<init>") ∧ zrF r ≤ R.frames ∧ zrW r ≤ R.locals ∧ B.1 ≤ R.cells ∧ B.2 ≤ R.slots ∧ zEv G s ∧ zGok G
def zWm (G : zGl) (l : Launch) (p : Program) (e : Env) (R : Room) (s : State) (m : MethodId) (args : Array Value) (below : List Frame) (meth : Method) (c : Code) (r : zRec) (B eb : Nat × Nat) (Qm : State → Prop) : zK := fun pc ls st h =>
  ∀ (H : Heap) (locs : List Loc) (cells slots : Nat) (LS : Array Slot), zRel G h H → (∀ q ∈ locs, zgn G ≤ q.base) → zLoc G ls LS (zrL r) → h.1.1 = eb.1 + cells → h.1.2 = eb.2 + slots → cells ≤ B.1 → slots ≤ B.2 → W p l e R s m args below meth c H locs cells slots Qm (F0 m pc LS (st.map (zTr G)))
def zRok (r : zRec) (ins : Instr) (v : Option Value) : Prop := (ins = .ireturn ∧ ∃ x, v = some (.int x) ∧ (zrT r = some .int ∨ (zrT r = some .boolean ∧ (x = 0 ∨ x = 1)))) ∨ (ins = .lreturn ∧ zrT r = some .long ∧ ∃ x, v = some (.long x)) ∨ (ins = .areturn ∧ (∃ ty, zrT r = some ty ∧ zKd ty = 2) ∧ ∃ x, v = some (.ref x)) ∨ (ins = .return_ ∧ zrT r = none ∧ v = none)
def zRtn (G : zGl) (l : Launch) (p : Program) (e : Env) (R : Room) (s : State) (m : MethodId) (args : Array Value) (below : List Frame) (meth : Method) (c : Code) (r : zRec) (B eb : Nat × Nat) (Qm : State → Prop) (Q : zQ) : Prop :=
  ∀ (v : Option Value) (h : zH) (pc : Nat) (ins : Instr) (H : Heap) (locs : List Loc) (cells slots : Nat) (LS : Array Slot), Q v h → zRel G h H → (∀ q ∈ locs, zgn G ≤ q.base) → h.1.1 = eb.1 + cells → h.1.2 = eb.2 + slots → cells ≤ B.1 → slots ≤ B.2 → zRok r ins v → decode (zrB r) pc = .ok (ins, 1) → (h.1 = (eb.1 + B.1, eb.2 + B.2) ∨ zrO r = 11) → W p l e R s m args below meth c H locs cells slots Qm (F0 m pc LS (v.toList.map (zTr G)))
/-- the two members of the texts -/
def zStr (G : zGl) (l : Launch) (p : Program) (e : Env) (R : Room) (s : State) (m : MethodId) (args : Array Value) (below : List Frame) (meth : Method) (c : Code) (r : zRec) (Qm : State → Prop) : Prop :=
  (∀ (pc o : Nat) (rest : List Value) (H : Heap) (locs : List Loc) (cells slots : Nat) (LS : Array Slot), decode (zrB r) pc = .ok (.invokevirtual zStrIx.1, 3) → zrO r = 6 → 2 ≤ R.frames → 48 ≤ R.locals → ¬ zTx o = [] → (∀ q, q < zgn G → H[q]? = (zgH G)[q]?) → zgn G ≤ H.size → (∀ q ∈ locs, zgn G ≤ q.base) → LS.size = zrL r → rest.length ≤ 4 → cells ≤ R.cells → slots ≤ R.slots →
    (∀ locs1 : List Loc, (∀ q ∈ locs1, zgn G ≤ q.base) → W p l e R s m args below meth c H locs1 cells slots Qm (F0 m (pc + 3) LS (.int (Int32.ofNat (zTx o).length) :: rest))) → W p l e R s m args below meth c H locs cells slots Qm (F0 m pc LS (.ref (zRo G o) :: rest))) ∧
  (∀ (pc o : Nat) (j : Int32) (rest : List Value) (H : Heap) (locs : List Loc) (cells slots : Nat) (LS : Array Slot), decode (zrB r) pc = .ok (.invokevirtual zStrIx.2, 3) → zrO r = 6 → 4 ≤ R.frames → 111 ≤ R.locals → zIn j (zTx o).length → (∀ q, q < zgn G → H[q]? = (zgH G)[q]?) → zgn G ≤ H.size → (∀ q ∈ locs, zgn G ≤ q.base) → LS.size = zrL r → rest.length ≤ 4 → cells ≤ R.cells → slots ≤ R.slots →
    (∀ locs1 : List Loc, (∀ q ∈ locs1, zgn G ≤ q.base) → W p l e R s m args below meth c H locs1 cells slots Qm (F0 m (pc + 3) LS (.int (Int32.ofNat ((zTx o).getD j.toNatClampNeg 0)) :: rest))) → W p l e R s m args below meth c H locs cells slots Qm (F0 m pc LS (.int j :: .ref (zRo G o) :: rest)))
theorem zCatsum {G : zGl} : ∀ (st : List Value), st.length ≤ 4 → ((st.map (zTr G)).map fun v => v.category).sum ≤ 8 := by
  intro st hs
  have h : ∀ l : List Value, ((l.map (zTr G)).map fun v => v.category).sum ≤ 2 * l.length := by
    intro l
    induction l with
    | nil => simp
    | cons v l ih =>
      have hv : (zTr G v).category ≤ 2 := by rw [zTr_cat]; rcases lv_cat v with h | h <;> omega
      simp only [List.map_cons, List.sum_cons, List.length_cons]
      omega
  have := h st
  omega
theorem zBif {b : Bool} {K : Prop} (h : bif b then K else False) : b = true ∧ K := by
  cases b
  · exact h.elim
  · exact ⟨rfl, h⟩
section ZW
variable {l : Launch} {p : Program} {e : Env} {R : Room} {s : State} {m : MethodId} {args : Array Value} {below : List Frame} {meth : Method} {c : Code} {G : zGl} {r : zRec} {B eb : Nat × Nat} {Qm : State → Prop}
set_option maxHeartbeats 4000000 in
theorem zs_plain (cx : zCx G p R s m args meth c r B) {t : zEnt} {pc : Nat} {k : zK} {call : Nat → List Value → zH → zQ → Prop} {Q : zQ} {ls st : List Value} {h : zH} (hc : zChk r B pc t = true)
    (hk : ∀ pc ls st h, k pc ls st h → zWm G l p e R s m args below meth c r B eb Qm pc ls st h) (hs : zSem t B eb k call Q ls st h)
    (hother : (match t.1 with | .iconst _ | .bipush _ | .sipush _ | .lconst _ | .iload _ | .iload_n _ | .lload _ | .lload_n _ | .aload _ | .aload_n _ | .istore _ | .istore_n _ | .lstore _ | .lstore_n _ | .astore _ | .astore_n _ | .iinc _ _ | .iadd | .isub | .imul | .irem | .iand | .ior | .ixor | .ishl | .ishr | .iushr | .ladd | .lsub | .lmul | .ldiv | .lrem | .lneg | .land | .lor | .lxor | .lshl | .lcmp | .i2l | .l2i | .i2s | .i2b | .dup | .dup2 | .goto _ | .if_icmp _ _ | .ifCond _ _ | .ldc_w _ | .ldc2_w _ => True | _ => zWm G l p e R s m args below meth c r B eb Qm pc ls st h)) : zWm G l p e R s m args below meth c r B eb Qm pc ls st h := by
  obtain ⟨hx, hb, hml, ⟨O, hO, hown⟩, hts, -⟩ := id cx
  obtain ⟨ins, nx, a, b, tc, w, kl, tg⟩ := t
  unfold zSem at hs
  cases ins <;> try exact hother
  all_goals dsimp only at hs
  all_goals unfold zChk at hc
  all_goals dsimp only at hc
  case iconst n => 
    simp only [Bool.and_eq_true, decide_eq_true_eq] at hc
    obtain ⟨hd, hw⟩ := hc
    obtain ⟨hd2, rfl⟩ := zDc_spec hd
    subst hw
    intro H locs cells slots LS hR hl hL h1 h2 h3 h4
    exact lv_iconst hx hb hd2 rfl (hk _ _ _ _ hs H locs cells slots LS hR hl hL h1 h2 h3 h4)
  case bipush n => 
    simp only [Bool.and_eq_true, decide_eq_true_eq] at hc
    obtain ⟨hd, hw⟩ := hc
    obtain ⟨hd2, rfl⟩ := zDc_spec hd
    subst hw
    intro H locs cells slots LS hR hl hL h1 h2 h3 h4
    exact lv_bipush hx hb hd2 rfl (hk _ _ _ _ hs H locs cells slots LS hR hl hL h1 h2 h3 h4)
  case sipush n => 
    simp only [Bool.and_eq_true, decide_eq_true_eq] at hc
    obtain ⟨hd, hw⟩ := hc
    obtain ⟨hd2, rfl⟩ := zDc_spec hd
    subst hw
    intro H locs cells slots LS hR hl hL h1 h2 h3 h4
    exact lv_sipush hx hb hd2 rfl (hk _ _ _ _ hs H locs cells slots LS hR hl hL h1 h2 h3 h4)
  case lconst n => 
    simp only [Bool.and_eq_true, decide_eq_true_eq] at hc
    obtain ⟨hd, hw⟩ := hc
    obtain ⟨hd2, rfl⟩ := zDc_spec hd
    subst hw
    intro H locs cells slots LS hR hl hL h1 h2 h3 h4
    exact lv_lconst hx hb hd2 rfl (hk _ _ _ _ hs H locs cells slots LS hR hl hL h1 h2 h3 h4)
  case iload i => 
    simp only [Bool.and_eq_true, decide_eq_true_eq] at hc
    obtain ⟨hd, hi⟩ := hc
    obtain ⟨hd2, rfl⟩ := zDc_spec hd
    split at hs
    · rename_i x hx2
      intro H locs cells slots LS hR hl hL h1 h2 h3 h4
      subst hi
      exact lv_iload hx hb hd2 (hL.2.2.2 _ _ hx2 (fun b hb => by cases hb)) (hk _ _ _ _ hs H locs cells slots LS hR hl hL h1 h2 h3 h4)
    · exact hs.elim
  case iload_n i => 
    simp only [Bool.and_eq_true, decide_eq_true_eq] at hc
    obtain ⟨hd, hi⟩ := hc
    obtain ⟨hd2, rfl⟩ := zDc_spec hd
    split at hs
    · rename_i x hx2
      intro H locs cells slots LS hR hl hL h1 h2 h3 h4
      exact lv_iload_n hx hb hd2 hi (hL.2.2.2 _ _ hx2 (fun b hb => by cases hb)) (hk _ _ _ _ hs H locs cells slots LS hR hl hL h1 h2 h3 h4)
    · exact hs.elim
  case lload i => 
    simp only [Bool.and_eq_true, decide_eq_true_eq] at hc
    obtain ⟨hd, hi⟩ := hc
    obtain ⟨hd2, rfl⟩ := zDc_spec hd
    split at hs
    · rename_i x hx2
      intro H locs cells slots LS hR hl hL h1 h2 h3 h4
      subst hi
      exact lv_lload hx hb hd2 (hL.2.2.2 _ _ hx2 (fun b hb => by cases hb)) (hk _ _ _ _ hs H locs cells slots LS hR hl hL h1 h2 h3 h4)
    · exact hs.elim
  case lload_n i => 
    simp only [Bool.and_eq_true, decide_eq_true_eq] at hc
    obtain ⟨hd, hi⟩ := hc
    obtain ⟨hd2, rfl⟩ := zDc_spec hd
    split at hs
    · rename_i x hx2
      intro H locs cells slots LS hR hl hL h1 h2 h3 h4
      exact lv_lload_n hx hb hd2 hi (hL.2.2.2 _ _ hx2 (fun b hb => by cases hb)) (hk _ _ _ _ hs H locs cells slots LS hR hl hL h1 h2 h3 h4)
    · exact hs.elim
  case aload i => 
    simp only [Bool.and_eq_true, decide_eq_true_eq] at hc
    obtain ⟨hd, hi⟩ := hc
    obtain ⟨hd2, rfl⟩ := zDc_spec hd
    split at hs
    · rename_i x hx2
      intro H locs cells slots LS hR hl hL h1 h2 h3 h4
      subst hi
      exact lv_aload hx hb hd2 (hL.2.2.2 _ _ hx2 (fun b hb => by cases hb)) (hk _ _ _ _ hs H locs cells slots LS hR hl hL h1 h2 h3 h4)
    · exact hs.elim
  case aload_n i => 
    simp only [Bool.and_eq_true, decide_eq_true_eq] at hc
    obtain ⟨hd, hi⟩ := hc
    obtain ⟨hd2, rfl⟩ := zDc_spec hd
    split at hs
    · rename_i x hx2
      intro H locs cells slots LS hR hl hL h1 h2 h3 h4
      exact lv_aload_n hx hb hd2 hi (hL.2.2.2 _ _ hx2 (fun b hb => by cases hb)) (hk _ _ _ _ hs H locs cells slots LS hR hl hL h1 h2 h3 h4)
    · exact hs.elim
  case istore i => 
    simp only [Bool.and_eq_true, decide_eq_true_eq] at hc
    obtain ⟨⟨hd, hi⟩, hlt⟩ := hc
    obtain ⟨hd2, rfl⟩ := zDc_spec hd
    have hlt : a < zrL r := Nat.le_of_ble_eq_true hlt
    split at hs
    · rename_i x st
      obtain ⟨ls2, hs, hls, hok⟩ := zG_spec hs
      intro H locs cells slots LS hR hl hL h1 h2 h3 h4
      have hL := zG_loc hL hls
      subst hi
      exact lv_istore hx hb hd2 (zLoc_has hL) hlt rfl (fun LS2 hL2 => hk _ _ _ _ hs H locs cells slots LS2 hR hl (zLoc_st1 hL.1 hok hL2) h1 h2 h3 h4)
    · exact hs.elim
  case istore_n i => 
    simp only [Bool.and_eq_true, decide_eq_true_eq] at hc
    obtain ⟨⟨hd, hi⟩, hlt⟩ := hc
    obtain ⟨hd2, rfl⟩ := zDc_spec hd
    have hlt : a < zrL r := Nat.le_of_ble_eq_true hlt
    split at hs
    · rename_i x st
      obtain ⟨ls2, hs, hls, hok⟩ := zG_spec hs
      intro H locs cells slots LS hR hl hL h1 h2 h3 h4
      have hL := zG_loc hL hls
      exact lv_istore_n hx hb hd2 hi (zLoc_has hL) hlt rfl (fun LS2 hL2 => hk _ _ _ _ hs H locs cells slots LS2 hR hl (zLoc_st1 hL.1 hok hL2) h1 h2 h3 h4)
    · exact hs.elim
  case astore i => 
    simp only [Bool.and_eq_true, decide_eq_true_eq] at hc
    obtain ⟨⟨hd, hi⟩, hlt⟩ := hc
    obtain ⟨hd2, rfl⟩ := zDc_spec hd
    have hlt : a < zrL r := Nat.le_of_ble_eq_true hlt
    split at hs
    · rename_i x st
      obtain ⟨ls2, hs, hls, hok⟩ := zG_spec hs
      intro H locs cells slots LS hR hl hL h1 h2 h3 h4
      have hL := zG_loc hL hls
      subst hi
      exact lv_astore hx hb hd2 (zLoc_has hL) hlt rfl (fun LS2 hL2 => hk _ _ _ _ hs H locs cells slots LS2 hR hl (zLoc_st1 hL.1 hok hL2) h1 h2 h3 h4)
    · exact hs.elim
  case astore_n i => 
    simp only [Bool.and_eq_true, decide_eq_true_eq] at hc
    obtain ⟨⟨hd, hi⟩, hlt⟩ := hc
    obtain ⟨hd2, rfl⟩ := zDc_spec hd
    have hlt : a < zrL r := Nat.le_of_ble_eq_true hlt
    split at hs
    · rename_i x st
      obtain ⟨ls2, hs, hls, hok⟩ := zG_spec hs
      intro H locs cells slots LS hR hl hL h1 h2 h3 h4
      have hL := zG_loc hL hls
      exact lv_astore_n hx hb hd2 hi (zLoc_has hL) hlt rfl (fun LS2 hL2 => hk _ _ _ _ hs H locs cells slots LS2 hR hl (zLoc_st1 hL.1 hok hL2) h1 h2 h3 h4)
    · exact hs.elim
  case lstore i => 
    simp only [Bool.and_eq_true, decide_eq_true_eq] at hc
    obtain ⟨⟨hd, hi⟩, hlt⟩ := hc
    obtain ⟨hd2, rfl⟩ := zDc_spec hd
    have hlt : a + 1 < zrL r := Nat.le_of_ble_eq_true hlt
    split at hs
    · rename_i x st
      obtain ⟨ls2, hs, hls, hok⟩ := zG_spec hs
      intro H locs cells slots LS hR hl hL h1 h2 h3 h4
      have hL := zG_loc hL hls
      subst hi
      exact lv_lstore hx hb hd2 (zLoc_has hL) hlt rfl (fun LS2 hL2 => hk _ _ _ _ hs H locs cells slots LS2 hR hl (zLoc_st2 hL.1 hok hL2) h1 h2 h3 h4)
    · exact hs.elim
  case lstore_n i => 
    simp only [Bool.and_eq_true, decide_eq_true_eq] at hc
    obtain ⟨⟨hd, hi⟩, hlt⟩ := hc
    obtain ⟨hd2, rfl⟩ := zDc_spec hd
    have hlt : a + 1 < zrL r := Nat.le_of_ble_eq_true hlt
    split at hs
    · rename_i x st
      obtain ⟨ls2, hs, hls, hok⟩ := zG_spec hs
      intro H locs cells slots LS hR hl hL h1 h2 h3 h4
      have hL := zG_loc hL hls
      exact lv_lstore_n hx hb hd2 hi (zLoc_has hL) hlt rfl (fun LS2 hL2 => hk _ _ _ _ hs H locs cells slots LS2 hR hl (zLoc_st2 hL.1 hok hL2) h1 h2 h3 h4)
    · exact hs.elim
  case iinc i n => 
    simp only [Bool.and_eq_true, decide_eq_true_eq] at hc
    obtain ⟨⟨⟨hd, hi⟩, hw⟩, hlt⟩ := hc
    obtain ⟨hd2, rfl⟩ := zDc_spec hd
    have hlt : a < zrL r := Nat.le_of_ble_eq_true hlt
    split at hs
    · rename_i x v hx2
      have hw2 : v = Int32.ofInt n := by cases hw; rfl
      subst hw2
      obtain ⟨ls2, hs, hls, hok⟩ := zG_spec hs
      intro H locs cells slots LS hR hl hL h1 h2 h3 h4
      have hx3 := hL.2.2.2 _ _ hx2 (fun b hb => by cases hb)
      have hL := zG_loc hL hls
      subst hi
      have hhas : lv_has LS (zrL r) ((i, Value.int x) :: zEn G ls2) := ⟨hL.2.1, hL.2.2.1, fun q hq => by
        rcases List.mem_cons.mp hq with e | e
        · rw [e]; exact hx3
        · exact (zLoc_has hL).2.2 q e⟩
      refine lv_iinc (k := 0) hx hb hd2 hhas rfl rfl hlt rfl (fun LS2 hL2 => hk _ _ _ _ hs H locs cells slots LS2 hR hl (zLoc_st1 hL.1 hok ?_) h1 h2 h3 h4)
      have e : ((i, Value.int x) :: zEn G ls2).filter (fun q => !(q.1 == i) && !(q.1 + 1 == i && q.2.category == 2)) = (zEn G ls2).filter (fun q => !(q.1 == i) && !(q.1 + 1 == i && q.2.category == 2)) := by simp
      rw [e] at hL2
      exact hL2
    · exact hs.elim
  case iadd => 
    obtain ⟨hd2, rfl⟩ := zDc_spec hc
    split at hs
    · intro H locs cells slots LS hR hl hL h1 h2 h3 h4
      exact lv_iadd hx hb hd2 (hk _ _ _ _ hs H locs cells slots LS hR hl hL h1 h2 h3 h4)
    · exact hs.elim
  case isub => 
    obtain ⟨hd2, rfl⟩ := zDc_spec hc
    split at hs
    · intro H locs cells slots LS hR hl hL h1 h2 h3 h4
      exact lv_isub hx hb hd2 (hk _ _ _ _ hs H locs cells slots LS hR hl hL h1 h2 h3 h4)
    · exact hs.elim
  case imul => 
    obtain ⟨hd2, rfl⟩ := zDc_spec hc
    split at hs
    · intro H locs cells slots LS hR hl hL h1 h2 h3 h4
      exact lv_imul hx hb hd2 (hk _ _ _ _ hs H locs cells slots LS hR hl hL h1 h2 h3 h4)
    · exact hs.elim
  case iand => 
    obtain ⟨hd2, rfl⟩ := zDc_spec hc
    split at hs
    · intro H locs cells slots LS hR hl hL h1 h2 h3 h4
      exact lv_iand hx hb hd2 (hk _ _ _ _ hs H locs cells slots LS hR hl hL h1 h2 h3 h4)
    · exact hs.elim
  case ior => 
    obtain ⟨hd2, rfl⟩ := zDc_spec hc
    split at hs
    · intro H locs cells slots LS hR hl hL h1 h2 h3 h4
      exact lv_ior hx hb hd2 (hk _ _ _ _ hs H locs cells slots LS hR hl hL h1 h2 h3 h4)
    · exact hs.elim
  case ixor => 
    obtain ⟨hd2, rfl⟩ := zDc_spec hc
    split at hs
    · intro H locs cells slots LS hR hl hL h1 h2 h3 h4
      exact lv_ixor hx hb hd2 (hk _ _ _ _ hs H locs cells slots LS hR hl hL h1 h2 h3 h4)
    · exact hs.elim
  case ishl => 
    obtain ⟨hd2, rfl⟩ := zDc_spec hc
    split at hs
    · intro H locs cells slots LS hR hl hL h1 h2 h3 h4
      exact lv_ishl hx hb hd2 (hk _ _ _ _ hs H locs cells slots LS hR hl hL h1 h2 h3 h4)
    · exact hs.elim
  case ishr => 
    obtain ⟨hd2, rfl⟩ := zDc_spec hc
    split at hs
    · intro H locs cells slots LS hR hl hL h1 h2 h3 h4
      exact lv_ishr hx hb hd2 (hk _ _ _ _ hs H locs cells slots LS hR hl hL h1 h2 h3 h4)
    · exact hs.elim
  case ladd => 
    obtain ⟨hd2, rfl⟩ := zDc_spec hc
    split at hs
    · intro H locs cells slots LS hR hl hL h1 h2 h3 h4
      exact lv_ladd hx hb hd2 (hk _ _ _ _ hs H locs cells slots LS hR hl hL h1 h2 h3 h4)
    · exact hs.elim
  case lsub => 
    obtain ⟨hd2, rfl⟩ := zDc_spec hc
    split at hs
    · intro H locs cells slots LS hR hl hL h1 h2 h3 h4
      exact lv_lsub hx hb hd2 (hk _ _ _ _ hs H locs cells slots LS hR hl hL h1 h2 h3 h4)
    · exact hs.elim
  case lmul => 
    obtain ⟨hd2, rfl⟩ := zDc_spec hc
    split at hs
    · intro H locs cells slots LS hR hl hL h1 h2 h3 h4
      exact lv_lmul hx hb hd2 (hk _ _ _ _ hs H locs cells slots LS hR hl hL h1 h2 h3 h4)
    · exact hs.elim
  case lneg => 
    obtain ⟨hd2, rfl⟩ := zDc_spec hc
    split at hs
    · intro H locs cells slots LS hR hl hL h1 h2 h3 h4
      exact lv_lneg hx hb hd2 (hk _ _ _ _ hs H locs cells slots LS hR hl hL h1 h2 h3 h4)
    · exact hs.elim
  case land => 
    obtain ⟨hd2, rfl⟩ := zDc_spec hc
    split at hs
    · intro H locs cells slots LS hR hl hL h1 h2 h3 h4
      exact lv_land hx hb hd2 (hk _ _ _ _ hs H locs cells slots LS hR hl hL h1 h2 h3 h4)
    · exact hs.elim
  case lor => 
    obtain ⟨hd2, rfl⟩ := zDc_spec hc
    split at hs
    · intro H locs cells slots LS hR hl hL h1 h2 h3 h4
      exact lv_lor hx hb hd2 (hk _ _ _ _ hs H locs cells slots LS hR hl hL h1 h2 h3 h4)
    · exact hs.elim
  case lxor => 
    obtain ⟨hd2, rfl⟩ := zDc_spec hc
    split at hs
    · intro H locs cells slots LS hR hl hL h1 h2 h3 h4
      exact lv_lxor hx hb hd2 (hk _ _ _ _ hs H locs cells slots LS hR hl hL h1 h2 h3 h4)
    · exact hs.elim
  case irem => 
    obtain ⟨hd2, rfl⟩ := zDc_spec hc
    split at hs
    · intro H locs cells slots LS hR hl hL h1 h2 h3 h4
      exact lv_irem hx hb hd2 hs.1 (hk _ _ _ _ hs.2 H locs cells slots LS hR hl hL h1 h2 h3 h4)
    · exact hs.elim
  case ldiv => 
    obtain ⟨hd2, rfl⟩ := zDc_spec hc
    split at hs
    · intro H locs cells slots LS hR hl hL h1 h2 h3 h4
      exact lv_ldiv hx hb hd2 hs.1 (hk _ _ _ _ hs.2 H locs cells slots LS hR hl hL h1 h2 h3 h4)
    · exact hs.elim
  case lrem => 
    obtain ⟨hd2, rfl⟩ := zDc_spec hc
    split at hs
    · intro H locs cells slots LS hR hl hL h1 h2 h3 h4
      exact lv_lrem hx hb hd2 hs.1 (hk _ _ _ _ hs.2 H locs cells slots LS hR hl hL h1 h2 h3 h4)
    · exact hs.elim
  case iushr => 
    obtain ⟨hd2, rfl⟩ := zDc_spec hc
    split at hs
    · intro H locs cells slots LS hR hl hL h1 h2 h3 h4
      exact lv_iushr hx hb hd2 rfl (hk _ _ _ _ hs H locs cells slots LS hR hl hL h1 h2 h3 h4)
    · exact hs.elim
  case lshl => 
    obtain ⟨hd2, rfl⟩ := zDc_spec hc
    split at hs
    · intro H locs cells slots LS hR hl hL h1 h2 h3 h4
      exact lv_lshl hx hb hd2 rfl (hk _ _ _ _ hs H locs cells slots LS hR hl hL h1 h2 h3 h4)
    · exact hs.elim
  case i2l => 
    obtain ⟨hd2, rfl⟩ := zDc_spec hc
    split at hs
    · intro H locs cells slots LS hR hl hL h1 h2 h3 h4
      exact lv_i2l hx hb hd2 rfl (hk _ _ _ _ hs H locs cells slots LS hR hl hL h1 h2 h3 h4)
    · exact hs.elim
  case l2i => 
    obtain ⟨hd2, rfl⟩ := zDc_spec hc
    split at hs
    · intro H locs cells slots LS hR hl hL h1 h2 h3 h4
      exact lv_l2i hx hb hd2 rfl (hk _ _ _ _ hs H locs cells slots LS hR hl hL h1 h2 h3 h4)
    · exact hs.elim
  case i2s => 
    obtain ⟨hd2, rfl⟩ := zDc_spec hc
    split at hs
    · intro H locs cells slots LS hR hl hL h1 h2 h3 h4
      exact lv_i2s hx hb hd2 rfl (hk _ _ _ _ hs H locs cells slots LS hR hl hL h1 h2 h3 h4)
    · exact hs.elim
  case i2b => 
    obtain ⟨hd2, rfl⟩ := zDc_spec hc
    split at hs
    · intro H locs cells slots LS hR hl hL h1 h2 h3 h4
      exact lv_i2b hx hb hd2 rfl (hk _ _ _ _ hs H locs cells slots LS hR hl hL h1 h2 h3 h4)
    · exact hs.elim
  case lcmp => 
    obtain ⟨hd2, rfl⟩ := zDc_spec hc
    split at hs
    · intro H locs cells slots LS hR hl hL h1 h2 h3 h4
      exact W.lcmp hx hb hd2 (hk _ _ _ _ hs H locs cells slots LS hR hl hL h1 h2 h3 h4)
    · exact hs.elim
  case dup => 
    obtain ⟨hd2, rfl⟩ := zDc_spec hc
    split at hs
    · intro H locs cells slots LS hR hl hL h1 h2 h3 h4
      exact lv_dup hx hb hd2 rfl (hk _ _ _ _ hs H locs cells slots LS hR hl hL h1 h2 h3 h4)
    · intro H locs cells slots LS hR hl hL h1 h2 h3 h4
      exact lv_dup hx hb hd2 rfl (hk _ _ _ _ hs H locs cells slots LS hR hl hL h1 h2 h3 h4)
    · exact hs.elim
  case dup2 => 
    obtain ⟨hd2, rfl⟩ := zDc_spec hc
    split at hs
    · intro H locs cells slots LS hR hl hL h1 h2 h3 h4
      exact lv_dup2_11 hx hb hd2 rfl rfl (hk _ _ _ _ hs H locs cells slots LS hR hl hL h1 h2 h3 h4)
    · exact hs.elim
  case goto off => 
    simp only [Bool.and_eq_true, decide_eq_true_eq] at hc
    obtain ⟨hd, ht⟩ := hc
    obtain ⟨hd2, rfl⟩ := zDc_spec hd
    intro H locs cells slots LS hR hl hL h1 h2 h3 h4
    exact lv_goto hx hb hd2 ht (hk _ _ _ _ hs H locs cells slots LS hR hl hL h1 h2 h3 h4)
  case if_icmp cd off => 
    simp only [Bool.and_eq_true, decide_eq_true_eq] at hc
    obtain ⟨hd, ht⟩ := hc
    obtain ⟨hd2, rfl⟩ := zDc_spec hd
    split at hs
    · intro H locs cells slots LS hR hl hL h1 h2 h3 h4
      cases cd
      · exact lv_icmp_eq hx hb hd2 ht (fun q => hk _ _ _ _ (by dsimp only at hs; rw [if_pos q] at hs; exact hs) H locs cells slots LS hR hl hL h1 h2 h3 h4) (fun q => hk _ _ _ _ (by dsimp only at hs; rw [if_neg q] at hs; exact hs) H locs cells slots LS hR hl hL h1 h2 h3 h4)
      · exact lv_icmp_ne hx hb hd2 ht (fun q => hk _ _ _ _ (by dsimp only at hs; rw [if_neg q] at hs; exact hs) H locs cells slots LS hR hl hL h1 h2 h3 h4) (fun q => hk _ _ _ _ (by dsimp only at hs; rw [if_pos q] at hs; exact hs) H locs cells slots LS hR hl hL h1 h2 h3 h4)
      · exact lv_icmp_lt hx hb hd2 ht (fun q => hk _ _ _ _ (by dsimp only at hs; rw [if_pos q] at hs; exact hs) H locs cells slots LS hR hl hL h1 h2 h3 h4) (fun q => hk _ _ _ _ (by dsimp only at hs; rw [if_neg q] at hs; exact hs) H locs cells slots LS hR hl hL h1 h2 h3 h4)
      · exact lv_icmp_ge hx hb hd2 ht (fun q => hk _ _ _ _ (by dsimp only at hs; rw [if_pos q] at hs; exact hs) H locs cells slots LS hR hl hL h1 h2 h3 h4) (fun q => hk _ _ _ _ (by dsimp only at hs; rw [if_neg q] at hs; exact hs) H locs cells slots LS hR hl hL h1 h2 h3 h4)
      · exact lv_icmp_gt hx hb hd2 ht (fun q => hk _ _ _ _ (by dsimp only at hs; rw [if_pos q] at hs; exact hs) H locs cells slots LS hR hl hL h1 h2 h3 h4) (fun q => hk _ _ _ _ (by dsimp only at hs; rw [if_neg q] at hs; exact hs) H locs cells slots LS hR hl hL h1 h2 h3 h4)
      · exact lv_icmp_le hx hb hd2 ht (fun q => hk _ _ _ _ (by dsimp only at hs; rw [if_pos q] at hs; exact hs) H locs cells slots LS hR hl hL h1 h2 h3 h4) (fun q => hk _ _ _ _ (by dsimp only at hs; rw [if_neg q] at hs; exact hs) H locs cells slots LS hR hl hL h1 h2 h3 h4)
    · exact hs.elim
  case ifCond cd off => 
    simp only [Bool.and_eq_true, decide_eq_true_eq] at hc
    obtain ⟨hd, ht⟩ := hc
    obtain ⟨hd2, rfl⟩ := zDc_spec hd
    split at hs
    · intro H locs cells slots LS hR hl hL h1 h2 h3 h4
      cases cd
      · exact lv_if_eq hx hb hd2 ht (fun q => hk _ _ _ _ (by dsimp only at hs; rw [if_pos q] at hs; exact hs) H locs cells slots LS hR hl hL h1 h2 h3 h4) (fun q => hk _ _ _ _ (by dsimp only at hs; rw [if_neg q] at hs; exact hs) H locs cells slots LS hR hl hL h1 h2 h3 h4)
      · exact lv_if_ne hx hb hd2 ht (fun q => hk _ _ _ _ (by dsimp only at hs; rw [if_neg q] at hs; exact hs) H locs cells slots LS hR hl hL h1 h2 h3 h4) (fun q => hk _ _ _ _ (by dsimp only at hs; rw [if_pos q] at hs; exact hs) H locs cells slots LS hR hl hL h1 h2 h3 h4)
      · exact lv_if_lt hx hb hd2 ht (fun q => hk _ _ _ _ (by dsimp only at hs; rw [if_pos q] at hs; exact hs) H locs cells slots LS hR hl hL h1 h2 h3 h4) (fun q => hk _ _ _ _ (by dsimp only at hs; rw [if_neg q] at hs; exact hs) H locs cells slots LS hR hl hL h1 h2 h3 h4)
      · exact lv_if_ge hx hb hd2 ht (fun q => hk _ _ _ _ (by dsimp only at hs; rw [if_pos q] at hs; exact hs) H locs cells slots LS hR hl hL h1 h2 h3 h4) (fun q => hk _ _ _ _ (by dsimp only at hs; rw [if_neg q] at hs; exact hs) H locs cells slots LS hR hl hL h1 h2 h3 h4)
      · exact lv_if_gt hx hb hd2 ht (fun q => hk _ _ _ _ (by dsimp only at hs; rw [if_pos q] at hs; exact hs) H locs cells slots LS hR hl hL h1 h2 h3 h4) (fun q => hk _ _ _ _ (by dsimp only at hs; rw [if_neg q] at hs; exact hs) H locs cells slots LS hR hl hL h1 h2 h3 h4)
      · exact lv_if_le hx hb hd2 ht (fun q => hk _ _ _ _ (by dsimp only at hs; rw [if_pos q] at hs; exact hs) H locs cells slots LS hR hl hL h1 h2 h3 h4) (fun q => hk _ _ _ _ (by dsimp only at hs; rw [if_neg q] at hs; exact hs) H locs cells slots LS hR hl hL h1 h2 h3 h4)
    · exact hs.elim
  case ldc_w i => 
    simp only [Bool.and_eq_true] at hc
    obtain ⟨hd, hw⟩ := hc
    obtain ⟨hd2, rfl⟩ := zDc_spec hd
    split at hw
    · rename_i v
      obtain ⟨O2, hO2, hm⟩ := zCpk_ok _ (List.elem_iff.mp hw)
      have e : O2 = O := Option.some.inj (hO2.symm.trans hO)
      subst e
      intro H locs cells slots LS hR hl hL h1 h2 h3 h4
      exact lv_ldcw hx hb hown (hts _ hm) hd2 (hk _ _ _ _ hs H locs cells slots LS hR hl hL h1 h2 h3 h4)
    · cases hw
  case ldc2_w i => 
    simp only [Bool.and_eq_true] at hc
    obtain ⟨hd, hw⟩ := hc
    obtain ⟨hd2, rfl⟩ := zDc_spec hd
    split at hw
    · rename_i v
      obtain ⟨O2, hO2, hm⟩ := zCpl_ok _ (List.elem_iff.mp hw)
      have e : O2 = O := Option.some.inj (hO2.symm.trans hO)
      subst e
      intro H locs cells slots LS hR hl hL h1 h2 h3 h4
      exact lv_ldc2 hx hb hown (hts _ hm) hd2 (hk _ _ _ _ hs H locs cells slots LS hR hl hL h1 h2 h3 h4)
    · cases hw
end ZW
