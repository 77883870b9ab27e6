-- ===== end of PART A; then your names; then what follows =====
/-! THE CLAIM OUT OF ONE WALK OF THE LAW'S BODY. Your part is whole_start (and what it stands on); all else here is the same for every law, but numbers. -/
def R_law : String := "BeaconLinesLaw"
def lw_P (b : Addr) (xs : List Int32) (args : Array Value) (s : State) : Prop := args = #[.ref b] ∧ s.IntsAt b xs ∧ xs.length ≤ 3072 ∧ (Jvm.Cond.and given_1 narrow_1).before args s = true
def lw_Q (_ : Array Value) (s : State) (o : Outcome) (t : State) : Prop := o = .returned (some (.int 1)) ∧ Framed s o t [] 600000 7302250
def lw_Z (below : List Frame) (a : Array Value) (s : State) : State → Prop := fun t => ∃ o, t.status = .running ∧ Ended t below o ∧ lw_Q a s o t
/-- the law's own end, with 1 on the stack, nothing written that was there before, its room as the claim has it -/
theorem lw_ret {p : Program} {l : Launch} {e : Env} {s : State} {m : MethodId} {below : List Frame} {meth : Method} {c : Code} {b : Nat} (hx : p.tables.exec = Jvm.exec) (hb : c.code = code) (hr : meth.sig.returnType = ret) (hlocks : meth.locks = false) {pc : Nat} {H : Heap} {ls : Array Slot} (hdg : decode code pc = .ok (.ireturn, 1)) : W p l e room_1 s m #[Value.ref b] below meth c H [] 600000 7302250 (lw_Z below #[Value.ref b] s) (F0 m pc ls [.int 1]) := by
  intro T hT X
  obtain ⟨fs, hret, hrun, hended, hW, hframe⟩ := X.leave (v := some (.int 1)) (hlocks := hlocks) (fun h => by rw [hr] at h; cases h)
  have hmeth' : T.vm.method? m = some meth := X.method'
  refine ⟨T.setFrames fs, ?_, .returned (some (.int 1)), hrun, hended, rfl, ⟨_, rfl⟩, hW, hframe⟩
  jvm_step X.here [X.here.top, hx, hb, hdg, hmeth', hr, ret, narrow_b1]
  (try refine ⟨rfl, ?_⟩); (try refine ⟨rfl, ?_⟩)
  first | (intro acts; rw [hret _ acts rfl rfl rfl]) | rw [hret _ _ rfl rfl rfl]
  exact Steps.refl _
/-- what holds at the law's entry: the machine, the code, the tables' words (any of lw_tbl by 'hts w (by decide +kernel)'), the script of L ints xs at the cell b, what the Statement gives of the start (any of its parts by flat_of_before) -/
def lw_At (p : Program) (s : State) (m : MethodId) (meth : Method) (c : Code) (b L : Nat) (xs : Nat → Int32) : Prop :=
  p.tables.exec = Jvm.exec ∧ c.code = code ∧ meth.sig.returnType = ret ∧ c.maxLocals = 4 ∧ s.vm.findClass R_law = some m.cls ∧ (∀ w ∈ lw_tbl, w.before #[Value.ref b] s = true) ∧ va_X b L xs s s.heap ∧ b < s.heap.size ∧ meth.locks = false ∧ (Jvm.Cond.and given_1 narrow_1).before #[Value.ref b] s = true
def zH0 (L : Nat) (xs : Nat → Int32) : zH := ((0, 0), fun k => if k = 0 then zI 3 L xs else zO 99 (fun _ => .null))
def zTm (i : Nat) : Term := .string RX6 ((zSix.getD i (0, "")).1)
theorem zp_ex : ∀ i, i < 4 → Cond.exactly (zTm i) "java/lang/String" ∈ flatC (Jvm.Cond.and given_1 narrow_1) := by decide +kernel
theorem zp_co : ∀ i, i < 4 → Cond.eq (.field (zTm i) "java/lang/String" "coder" "B") (.int 0) ∈ flatC (Jvm.Cond.and given_1 narrow_1) := by decide +kernel
theorem zp_ar : ∀ i, i < 4 → Cond.arrayOf (.field (zTm i) "java/lang/String" "value" "[B") .byte ∈ flatC (Jvm.Cond.and given_1 narrow_1) := by decide +kernel
theorem zp_le : ∀ i, i < 4 → Cond.eq (.length (.field (zTm i) "java/lang/String" "value" "[B")) (.int (Int32.ofNat (zBl.getD i 0))) ∈ flatC (Jvm.Cond.and given_1 narrow_1) := by decide +kernel
theorem zp_el : ∀ i, i < 4 → ∀ j, j < zBl.getD i 0 → Cond.eq (.elem (.field (zTm i) "java/lang/String" "value" "[B") (.int (Int32.ofNat j))) (.int ((zBb.getD i []).getD j 0)) ∈ flatC (Jvm.Cond.and given_1 narrow_1) := by decide +kernel
theorem zp_ne : ∀ i, i < 4 → ∀ j, j < 4 → i ≠ j → Cond.not (Cond.eq (zTm i) (zTm j)) ∈ flatC (Jvm.Cond.and given_1 narrow_1) ∨ Cond.not (Cond.eq (zTm j) (zTm i)) ∈ flatC (Jvm.Cond.and given_1 narrow_1) := by decide +kernel
theorem zp_cs : Cond.eq (.static "java/lang/String" "COMPACT_STRINGS" "Z") (.int 1) ∈ flatC (Jvm.Cond.and given_1 narrow_1) := by decide +kernel
theorem zp_sf : Cond.isRef (.static "jdk/internal/util/Preconditions" "SIOOBE_FORMATTER" "Ljava/util/function/BiFunction;") ∈ flatC (Jvm.Cond.and given_1 narrow_1) := by decide +kernel
/-- the law, in the small machine -/
theorem law_pure {L : Nat} {xs : Nat → Int32} (hL : L ≤ 3072) : zW 12 m_Law_law (0, 0) 0 [.ref 0, zD, zD, zD] [] (zH0 L xs) (fun v _ => v = some (.int 1)) := law_run hL rfl rfl (fun _ => rfl)
theorem zArrP {s : State} {args : Array Value} {ty : FieldType} (hp : ∀ C, ty ≠ .object C) (h : (Cond.arrayClass ty).before args s = true) : ∃ cA, ArrOfT s cA ty ∧ va_RA s cA ty := by
  obtain ⟨cA, kA, comp, f1, f2, f3⟩ := Cond.arrayClass_spec (args := args) (first := s) (o := none) (s := s) (idx := []) h
  refine ⟨cA, fun N z => ⟨(fun k h => by cases h), kA, f2, comp, f3⟩, ?_⟩
  cases ty <;> first | exact f1 | exact absurd rfl (hp _)
theorem zArrO {s : State} {args : Array Value} {C : String} (h : (Cond.arrayOver (.object C)).before args s = true) : ∃ cA, ArrOfT s cA (.object C) ∧ va_RA s cA (.object C) := by
  obtain ⟨comp, cA, kA, f1, f2, f3, f4, f5⟩ := Cond.arrayOver_spec (args := args) (first := s) (o := none) (s := s) (idx := []) h
  exact ⟨cA, fun N z => ⟨(fun k h => by cases h), kA, f3, comp, f4⟩, kA, comp, f3, f4, f1, f5⟩
set_option maxHeartbeats 4000000 in
theorem whole_start {p : Program} {e : Env} {s : State} {m : MethodId} {below : List Frame} {meth : Method} {c : Code} (l : Launch) (hflags : l.flags = flags0) {b L : Nat} {xs : Nat → Int32} (hL : L ≤ 3072) (C0 : lw_At p s m meth c b L xs) : W p l e room_1 s m #[Value.ref b] below meth c s.heap [] 0 0 (lw_Z below #[Value.ref b] s) (entryFrame m ([Value.ref b] : List Value).toArray 4) := by
  obtain ⟨hx, hb, hr, hml, hown, hts, hX, hbl, hlocks, hgv⟩ := id C0
  have hs := flat_of_before _ hgv
  have hgw : ∀ w ∈ zGW, w ∈ lw_tbl := fun w hw => (List.mem_filter.mp hw).1
  obtain ⟨c0, i0, hn0⟩ := u_known (C := RX0) (T := TX0) (N := 4) (n := 4) hts (fun w hw => hgw w (zcls_0.1 w hw)) (hts (.instantiable RX0 4) (zh1 51 rfl))
  obtain ⟨c1, i1, hn1⟩ := u_known (C := RX1) (T := TX1) (N := 4) (n := 4) hts (fun w hw => hgw w (zcls_1.1 w hw)) (hts (.instantiable RX1 4) (zh1 209 rfl))
  obtain ⟨c2, i2, hn2⟩ := u_known (C := RX2) (T := TX2) (N := 3) (n := 3) hts (fun w hw => hgw w (zcls_2.1 w hw)) (hts (.instantiable RX2 3) (zh1 228 rfl))
  obtain ⟨c3, i3, hn3⟩ := u_known (C := RX3) (T := TX3) (N := 13) (n := 13) hts (fun w hw => hgw w (zcls_3.1 w hw)) (hts (.instantiable RX3 13) (zh1 128 rfl))
  obtain ⟨c4, i4, hn4⟩ := u_known (C := RX4) (T := TX4) (N := 3) (n := 3) hts (fun w hw => hgw w (zcls_4.1 w hw)) (hts (.instantiable RX4 3) (zh2 23 rfl))
  obtain ⟨c5, i5, hn5⟩ := u_known (C := RX5) (T := TX5) (N := 2) (n := 2) hts (fun w hw => hgw w (zcls_5.1 w hw)) (hts (.instantiable RX5 2) (zh1 35 rfl))
  obtain ⟨c6, i6, hn6⟩ := u_known (C := RX6) (T := TX6) (N := 10) (n := 10) hts (fun w hw => hgw w (zcls_6.1 w hw)) (hts (.instantiable RX6 10) (zh1 29 rfl))
  obtain ⟨c7, i7, hn7⟩ := u_known (C := RX7) (T := TX7) (N := 2) (n := 2) hts (fun w hw => hgw w (zcls_7.1 w hw)) (hts (.instantiable RX7 2) (zh2 4 rfl))
  obtain ⟨c8, i8, hn8⟩ := u_known (C := RX8) (T := TX8) (N := 4) (n := 4) hts (fun w hw => hgw w (zcls_8.1 w hw)) (hts (.instantiable RX8 4) (zh1 119 rfl))
  obtain ⟨c9, i9, hn9⟩ := u_known (C := RX9) (T := TX9) (N := 12) (n := 12) hts (fun w hw => hgw w (zcls_9.1 w hw)) (hts (.instantiable RX9 12) (zh1 21 rfl))
  obtain ⟨c10, i10, hn10⟩ := u_known (C := RX10) (T := TX10) (N := 39) (n := 39) hts (fun w hw => hgw w (zcls_10.1 w hw)) (hts (.instantiable RX10 39) (zh4 144 rfl))
  obtain ⟨aI, hI1, hI2⟩ := zArrP (ty := .int) (fun C h => by cases h) (hts _ (zh1 82 rfl))
  obtain ⟨aZ, hZ1, hZ2⟩ := zArrP (ty := .boolean) (fun C h => by cases h) (hts _ (zh2 39 rfl))
  obtain ⟨aB, hB1, hB2⟩ := zArrP (ty := .byte) (fun C h => by cases h) (hts _ (zh1 49 rfl))
  obtain ⟨aJ, hJ1, hJ2⟩ := zArrP (ty := .long) (fun C h => by cases h) (hts _ (zh2 40 rfl))
  obtain ⟨a0, h01, h02⟩ := zArrO (C := RX0) (hts _ (zh2 19 rfl))
  obtain ⟨a3, h31, h32⟩ := zArrO (C := RX3) (hts _ (zh1 127 rfl))
  obtain ⟨a4, h41, h42⟩ := zArrO (C := RX4) (hts _ (zh2 21 rfl))
  have hA : ∀ a : Nat, a < s.heap.size → ¬ (fun q : Nat => s.heap.size ≤ q) a := fun a h1 h2 => absurd h1 (Nat.not_lt.mpr h2)
  obtain ⟨adK, adV, hS4, hev⟩ := vk_Sof (N := 4) (tm := zTm) (len := zBl) (byt := zBb) (A := fun q : Nat => s.heap.size ≤ q) (by decide +kernel) (fun i hi => hs _ (zp_ex i hi)) (fun i hi => hs _ (zp_co i hi)) (fun i hi => hs _ (zp_ar i hi)) (fun i hi => hs _ (zp_le i hi)) (fun i hi j hj => hs _ (zp_el i hi j hj)) (fun i j hi hj hne => (zp_ne i hi j hj hne).imp (hs _) (hs _)) hA
  let G : zGl := (s.heap.size, s.heap, (fun k => match k with | 0 => b | 1 => adK 0 | 2 => adK 1 | 3 => adK 2 | 4 => adK 3 | 100 => adV 0 | 101 => adV 1 | 102 => adV 2 | 103 => adV 3 | _ => b), (fun k => match k with | 0 => c0 | 1 => c1 | 2 => c2 | 3 => c3 | 4 => c4 | 5 => c5 | 6 => c6 | 7 => c7 | 8 => c8 | 9 => c9 | _ => c10), (fun k => match k with | 0 => i0 | 1 => i1 | 2 => i2 | 3 => i3 | 4 => i4 | 5 => i5 | 6 => i6 | 7 => i7 | 8 => i8 | 9 => i9 | _ => i10), (fun k => match k with | 0 => aI | 1 => aZ | _ => aB), aJ, (fun k => match k with | 0 => a0 | 3 => a3 | _ => a4), L, xs)
  have had : ∀ i, i < 4 → adK i < s.heap.size := by
    intro i hi
    obtain ⟨cell, c1, -⟩ := (hS4.1 i hi).1
    exact (Array.getElem?_eq_some_iff.mp c1).1
  have hG : zGok G := by
    refine ⟨rfl, fun k hk => ?_⟩
    rcases (show k = 0 ∨ k = 1 ∨ k = 2 ∨ k = 3 ∨ k = 4 ∨ k = 5 ∨ k = 6 ∨ k = 7 by omega) with rfl | rfl | rfl | rfl | rfl | rfl | rfl | rfl
    · exact hbl
    · exact had 0 (by decide)
    · exact had 1 (by decide)
    · exact had 2 (by decide)
    · exact had 3 (by decide)
    · exact hbl
    · exact hbl
    · exact hbl
  have hK : va_K (zgC G, zgI G) vwCl (zTys G) s := by
    refine ⟨fun k q hq => ?_, fun k q hq => ?_⟩
    · match k, hq with
    | 0, hq => cases hq; exact hn0
    | 1, hq => cases hq; exact hn1
    | 2, hq => cases hq; exact hn2
    | 3, hq => cases hq; exact hn3
    | 4, hq => cases hq; exact hn4
    | 5, hq => cases hq; exact hn5
    | 6, hq => cases hq; exact hn6
    | 7, hq => cases hq; exact hn7
    | 8, hq => cases hq; exact hn8
    | 9, hq => cases hq; exact hn9
    | 10, hq => cases hq; exact hn10
    | n + 11, hq => exact absurd (List.getElem?_eq_some_iff.mp hq).1 (by show ¬ n + 11 < 11; omega)
    · match k, hq with
      | 0, hq => cases hq; exact ⟨hI1, hI2⟩
      | 1, hq => cases hq; exact ⟨hZ1, hZ2⟩
      | 2, hq => cases hq; exact ⟨hB1, hB2⟩
      | 3, hq => cases hq; exact ⟨hJ1, hJ2⟩
      | 4, hq => cases hq; exact ⟨h01, h02⟩
      | 5, hq => cases hq; exact ⟨h31, h32⟩
      | 6, hq => cases hq; exact ⟨h41, h42⟩
      | n + 7, hq => exact absurd (List.getElem?_eq_some_iff.mp hq).1 (by show ¬ n + 7 < 7; omega)
  have hS4' : vk_S 4 zBl zBb (fun i => zgo G (i + 1)) (fun i => zgo G (100 + i)) (fun q => zgn G ≤ q) s (zgH G) := by
    refine ⟨fun i hi => ?_, fun i j hi hj hij => ?_⟩
    · rcases (show i = 0 ∨ i = 1 ∨ i = 2 ∨ i = 3 by omega) with rfl | rfl | rfl | rfl
      · exact hS4.1 0 (by decide)
      · exact hS4.1 1 (by decide)
      · exact hS4.1 2 (by decide)
      · exact hS4.1 3 (by decide)
    · refine hS4.2 i j hi hj ?_
      rcases (show i = 0 ∨ i = 1 ∨ i = 2 ∨ i = 3 by omega) with rfl | rfl | rfl | rfl <;> rcases (show j = 0 ∨ j = 1 ∨ j = 2 ∨ j = 3 by omega) with rfl | rfl | rfl | rfl <;> exact hij
  have hE : zEv G s := by
    refine ⟨hK, hX, fun own i y host hm => va_Nw.of rfl (hts _ hm), fun C hm => va_AO.of (hts _ hm), fun k q hq => ?_, hS4', va_Zof (hts _ (zh2 140 rfl)) (hts _ (zh1 13 rfl)) (va_eqt (hs _ zp_cs)) hA, va_Zqof (hts _ (zh2 156 rfl)) (hts _ (zh1 15 rfl)) (hs _ zp_sf) hA⟩
    match k, hq with
    | 0, hq => cases hq; exact vk_R.of (hts _ (zh2 126 rfl)) (hev 0 (by decide))
    | 1, hq => cases hq; exact vk_R.of (hts _ (zh2 195 rfl)) (hev 1 (by decide))
    | 2, hq => cases hq; exact vk_R.of (hts _ (zh2 208 rfl)) (hev 2 (by decide))
    | 3, hq => cases hq; exact vk_R.of (hts _ (zh2 213 rfl)) (hev 3 (by decide))
    | n + 4, hq => exact absurd (List.getElem?_eq_some_iff.mp hq).1 (by show ¬ n + 4 < 4; omega)
  have cx : zCx G p room_1 s m #[Value.ref b] meth c (x, code, maxLocals, ret, 11, 390, 11, 1, 2) (1000, 20000) := ⟨hx, hb, hml, ⟨RL, rfl, hown⟩, fun w hw => hts w (hgw w hw), fun h => absurd h (by decide +kernel), Nat.le_refl _, Nat.le_refl _, Nat.le_of_ble_eq_true rfl, Nat.le_of_ble_eq_true rfl, hE, hG⟩
  have hR : zRel G (zH0 L xs) s.heap := by
    refine ⟨rfl, fun q _ => rfl, fun k => ?_, fun k hk => ?_⟩
    · by_cases h0 : k = 0
      · subst h0
        exact ⟨fun h => absurd h (by decide), fun _ => ⟨rfl, rfl, rfl⟩⟩
      · show zAt G _ (if k = 0 then zI 3 L xs else zO 99 (fun _ => .null)) _
        rw [if_neg h0]
        intro r hr
        cases hr
    · by_cases h0 : k = 0
      · subst h0
        exact Or.inl ⟨L, xs, rfl⟩
      · show zOld (if k = 0 then zI 3 L xs else zO 99 (fun _ => .null))
        rw [if_neg h0]
        exact Or.inr ⟨_, rfl⟩
  rw [lg_entry_eq]
  refine zSoundW (y := m_Law_law) (B := (1000, 20000)) rfl cx zStr_all (fun pc t h => zAll zk_Law_law pc t h) (zSound hG zStr_all 11) ?_ (law_pure (xs := xs) hL) s.heap [] 0 0 _ hR (fun q hq => by cases hq) (zLoc_entry (G := G) (as := [.ref 0]) (n := 4) (by decide)) rfl rfl (Nat.zero_le _) (Nat.zero_le _)
  intro v h' pc ins H locs cells slots LS hQ hR' hl h1 h2 h3 h4 hok hdg hex
  have hv : v = some (.int 1) := hQ
  subst hv
  rcases hok with ⟨rfl, -⟩ | ⟨-, -, x, hx2⟩ | ⟨-, -, x, hx2⟩ | ⟨-, -, hx2⟩
  · refine va_forget (fun q hq => hl q hq) ?_
    refine W.widen (k := 600000) (n := 7302250) (Nat.le_trans h3 (Nat.le_of_ble_eq_true rfl)) (Nat.le_trans h4 (Nat.le_of_ble_eq_true rfl)) ?_
    exact lw_ret hx hb hr hlocks hdg
  · cases hx2
  · cases hx2
  · cases hx2
-- ===== YOUR PART ENDS =====
set_option maxHeartbeats 4000000 in
theorem lw_walk (l : Launch) (hflags : l.flags = flags0) (b : Addr) (xs : List Int32) : MetFree l x (headSpec (Jvm.Cond.code x code maxLocals ret :: tables_1) room_1) (lw_P b xs) (fun _ _ _ _ _ => True) lw_Q := by
  refine MetFree.of_bodyS (code := code) (maxLocals := maxLocals) (ret := ret) (by decide) ?_ ?_
  · intro args s m h hn
    obtain ⟨meth, c, h1, h2, h3, h4, h5, h6, -, -⟩ := Cond.code_spec hn (atoms_spec (ws := Jvm.Cond.code x code maxLocals ret :: tables_1) h _ List.mem_cons_self)
    exact ⟨meth, c, h1, h2, h3, h4, h5, h6⟩
  · intro p e s m args below meth c s₁ B hml0 hP _
    obtain ⟨rfl, hx, hbd, hgv⟩ := hP
    obtain ⟨scr, harrAt, hlist, hof, hsmall⟩ := hx
    obtain ⟨hcb, hkn, -, -⟩ := State.arrayAt?_spec harrAt
    have hown : s.vm.findClass R_law = some m.cls := findClass_of_methodNamed B.named
    have hts0 : ∀ c ∈ (Jvm.Cond.code x code maxLocals ret :: tables_1), c.before #[Value.ref b] s = true := atoms_spec (ws := Jvm.Cond.code x code maxLocals ret :: tables_1) B.pre
    have hts : ∀ w ∈ lw_tbl, w.before #[Value.ref b] s = true := k2_hts_sels lw_privs (fun w hw => hts0 w (List.mem_cons_of_mem _ hw)) lw_privs_ok
    have hml : c.maxLocals = 4 := B.maxLocals_eq (hts0 _ List.mem_cons_self)
    have X₀ : Stand p l e room_1 s m #[Value.ref b] below meth c s₁ [] 0 0 := Stand.of_body B
    have hh0 : s₁.heap = s.heap := by rw [B.state]; rfl
    have hsz : scr.slots.size = xs.length := by rw [← Array.length_toList, hlist, List.length_map]
    have hval : ∀ j : Nat, j < xs.length → scr.slots[j]? = some (.int (xs.getD j 0)) := fun j hj => by
      rw [← Array.getElem?_toList, hlist]
      simp [hj]
    have hbl : b < s.heap.size := (Array.getElem?_eq_some_iff.mp hcb).1
    have hX : va_X b xs.length (fun j => xs.getD j 0) s s.heap := ⟨scr, hcb, hof, hkn, hsz, hval⟩
    have K : W p l e room_1 s m #[Value.ref b] below meth c s₁.heap [] 0 0 (lw_Z below #[Value.ref b] s) (entryFrame m ([Value.ref b] : List Value).toArray 4) := by
      rw [hh0]
      exact whole_start l hflags hbd ⟨B.exec, B.bytes, B.returns, hml, hown, hts, hX, hbl, B.notSynchronized, hgv⟩
    obtain ⟨t, a1, o, b1, b2, b3⟩ := K s₁ rfl X₀
    exact ⟨t, o, a1, b1, b2, b3⟩
theorem lw_pre_spec {args : Array Value} {s : State} (h : (Jvm.Cond.and given_1 narrow_1).before args s = true) (hr : rest_1_c.before args s = true) : ∃ (b : Addr) (xs : List Int32), lw_P b xs args s := by
  have hs := flat_of_before _ h
  have hq := flat_of_before _ hr
  have hc : (Cond.count 1).before args s = true := hs _ (by decide +kernel)
  have harr : (Cond.arrayOf (.arg 0) .int).before args s = true := hs _ (by decide +kernel)
  have hle : (Cond.le (.length (.arg 0)) (.int 3072)).before args s = true := hs _ (by decide +kernel)
  have hlen : (Cond.isInt (.length (.arg 0))).before args s = true := hq _ (by decide +kernel)
  have hall : (Cond.all (.arg 0) (.isInt (.elem (.arg 0) (.index 0)))).before args s = true := hq _ (by decide +kernel)
  obtain ⟨b, xs, hb, hx⟩ := State.ints_of_pre rfl harr hlen hall
  have hsm : xs.length < 2 ^ 31 := hx.choose_spec.2.2.2
  have hev : (Term.length (.arg 0)).eval args s none [] s = some (.int xs.length.toInt32) := hx.length_eval hb
  have hv := Cond.le_ints hev (show (Term.int 3072).eval args s none [] s = some (.int 3072) from rfl)
  have hd : xs.length.toInt32 ≤ 3072 := by
    simpa [Cond.before, Cond.holds, hv] using hle
  have hN : xs.length ≤ 3072 := (Int32.ofNat_le_ofNat hsm (by decide)).mp (show Int32.ofNat xs.length ≤ Int32.ofNat 3072 from hd)
  exact ⟨b, xs, Cond.one_arg hc (show args[0]? = some (.ref b) from hb), hx, hN, h⟩
theorem lw_comes (l : Launch) (hflags : l.flags = flags0) : Comes l x (Jvm.Cond.code x code maxLocals ret :: tables_1) room_1 (fun tb e args s => Calls_1 tb e args s ∧ rest_1 tb e args s ∧ Pre_1 tb e args s)
    (fun _ _ args s o t => lw_Q args s o t) := by
  intro p e ha hc hk s m args below hf hfit hheap happ hpre
  obtain ⟨b, xs, hP⟩ := lw_pre_spec hpre.2.2 hpre.2.1
  obtain ⟨k, o, h1, h2, h3, hQ⟩ := lw_walk l hflags b xs p e ha hc hk s m args below hf ((Spec.applies_iff_loose hf).mp happ).1 hP trivial
  exact ⟨k, o, h1, h2, h3, hQ⟩
theorem lw_frame {s t : State} {o : Outcome} {args : Array Value} (h : Framed s o t [] 600000 7302250) :
    Framed s o t (fieldLocs frame_1_writes args s ++ arrayLocs frame_1_arrays args s ++ staticLocs frame_1_statics s) 600000 7302250 := h
theorem lw_limb (L : Cond) (hL : ∀ (args : Array Value) (s t : State), L.after args s (.returned (some (.int 1))) t = true) :
    ArmFor flags0 classFile x code maxLocals ret World_1 tables_1 room_1 Calls_1 rest_1 Pre_1
      (fun tb e a s o t => postC L tb e a s o t ∧ Framed s o t (fieldLocs frame_1_writes a s ++ arrayLocs frame_1_arrays a s ++ staticLocs frame_1_statics s) 600000 7302250) := by
  intro l hflags _ _ p e ha hc hk s m args below hf hfit hheap happ hpre
  obtain ⟨k, o, h1, h2, h3, rfl, hF⟩ := lw_comes l hflags p e ha hc hk s m args below hf hfit hheap happ hpre
  exact ⟨k, _, h1, h2, h3, hL args s _, lw_frame hF⟩
theorem i_vc : Claimed_1_1 ∧ Claimed_1_2 := ⟨lw_limb limb_1_1 (fun args s t => by simp [limb_1_1, Cond.after, Cond.holds, Cond.value]), lw_limb limb_1_2 (fun args s t => Cond.after_iff.mpr (by
  first | (rw [show limb_1_2 = Cond.eq .result (.int 1) from rfl, Cond.eq_ints (x := 1) (y := 1) rfl rfl]; simp; done) | (simp [limb_1_2, Cond.value, Term.eval]; done)))⟩
