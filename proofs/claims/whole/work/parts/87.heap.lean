theorem zGood {w : Cond} (h : w ∈ zGW) : w ∈ zGW ∧ ((w.onTables && w.keeps) = true ∨ ∃ ty, w = .arrayClass ty) := ⟨h, good_of_word (List.mem_filter.mp h).2⟩
theorem zSw_spec {x : Int32} {K : Nat → Prop} {d : Nat} : ∀ (ts : List Nat) (i : Nat), zSw x K d i ts → (∃ j t, ts[j]? = some t ∧ x = Int32.ofNat (i + j) ∧ K t) ∨ ((∀ j, j < ts.length → x ≠ Int32.ofNat (i + j)) ∧ K d)
  | [], i, h => Or.inr ⟨fun j hj => by simp at hj, h⟩
  | t :: ts, i, h => by
    unfold zSw at h
    split at h
    · rename_i c; exact Or.inl ⟨0, t, rfl, c, h⟩
    · rename_i c
      rcases zSw_spec ts (i + 1) h with ⟨j, t2, h1, h2, h3⟩ | ⟨h1, h2⟩
      · exact Or.inl ⟨j + 1, t2, h1, by rw [h2]; congr 1; omega, h3⟩
      · refine Or.inr ⟨fun j hj => ?_, h2⟩
        cases j with
        | zero => exact c
        | succ j =>
          have := h1 j (by simpa using hj)
          rwa [show i + (j + 1) = i + 1 + j by omega]
theorem zTg_spec {pc : Nat} : ∀ (os : List Int) (ts : List Nat), zTg pc os ts = true → ∀ (j t : Nat), ts[j]? = some t → ∃ o, os[j]? = some o ∧ (pc : Int) + o = (t : Int)
  | [], [], _, j, t, h => by simp at h
  | o :: os, t0 :: ts, hz, j, t, h => by
    simp only [zTg, Bool.and_eq_true, decide_eq_true_eq] at hz
    cases j with
    | zero => cases h; exact ⟨o, rfl, hz.1⟩
    | succ j => exact zTg_spec os ts hz.2 j t h
  | [], t0 :: ts, hz, _, _, _ => by cases hz
  | o :: os, [], hz, _, _, _ => by cases hz
theorem zTk_spec {K : List Value → List Value → Prop} : ∀ (n : Nat) (acc st : List Value), zTk n acc st K → ∃ xs rest, st = xs ++ rest ∧ xs.length = n ∧ K (xs.reverse ++ acc) rest
  | 0, acc, st, h => ⟨[], st, rfl, rfl, h⟩
  | n + 1, acc, v :: st, h => by
    obtain ⟨xs, rest, h1, h2, h3⟩ := zTk_spec n (v :: acc) st h
    exact ⟨v :: xs, rest, by rw [h1]; rfl, by simp [h2], by simpa using h3⟩
  | n + 1, acc, [], h => h.elim
theorem z_arr {α : Type} (mk : α → Value) (cA : ClassId) (n k : Nat) (f : Nat → α) (x : α) : (arrV cA n (fun j => mk (f j))).setSlot k (mk x) = arrV cA n (fun j => mk (zU f k x j)) := by
  rw [arrV_store]
  congr 1
  funext q
  by_cases hq : q = k
  · subst hq; simp [updV, zU]
  · simp [updV, zU, hq]
theorem zIn_not {j : Int32} {n : Nat} {cA : ClassId} {f : Nat → Value} (h : zIn j n) : ¬ (j < 0 ∨ (arrV cA n f).slots.size ≤ j.toNatClampNeg) := by
  rw [arrV_size]
  rintro (q | q)
  · exact h.1 q
  · exact absurd h.2 (Nat.not_lt.mpr q)
section ZW
variable {l : Launch} {p : Program} {e : Env} {R : Room} {s : State} {m : MethodId} {args : Array Value} {below : List Frame} {meth : Method} {c : Code} {G : zGl} {r : zRec} {B eb : Nat × Nat} {Qm : State → Prop}
/-- behind a call -/
theorem zAfter {H : Heap} {locs : List Loc} {cells slots : Nat} {LS : Array Slot} {pc : Nat} {st0 rest : List Value} {K : zQ} {h : zH} {Bz : Nat × Nat} {as : Array Value} (hr : va_Run p l e R s m args below meth c H locs cells slots Bz.1 Bz.2 (F0 m pc LS st0) rest (zQc G K h Bz as) (fun a => zgn G ≤ a)) (hl : ∀ q ∈ locs, zgn G ≤ q.base)
    (kk : ∀ (v : Option Value) (h' : zH) (H1 : Heap) (locs1 : List Loc), K v h' → zRel G h' H1 → h'.1 = (h.1.1 + Bz.1, h.1.2 + Bz.2) → (∀ q ∈ locs1, zgn G ≤ q.base) → W p l e R s m args below meth c H1 locs1 (cells + Bz.1) (slots + Bz.2) Qm (F0 m (pc + 3) LS ((v.map (zTr G)).toList ++ rest))) : W p l e R s m args below meth c H locs cells slots Qm (F0 m pc LS st0) := by
  intro T hT X
  obtain ⟨v0, st₀, t, T', L, h0, X', hL, e1, e2, ⟨v, h', hv, hK, hR', hB⟩, st⟩ := hr T hT X
  have hv2 : v0 = v.map (zTr G) := by injection hv
  subst hv2
  obtain ⟨t2, a1, b1⟩ := kk v h' T'.heap (locs ++ L) hK (by rw [e1]; exact hR') hB (fun q hq => by
    rcases List.mem_append.mp hq with h | h
    · exact hl q h
    · exact hL q h) T' rfl X'
  exact ⟨t2, st t2 a1, b1⟩
theorem zBlind {as : List Value} {h : zH} : FrameBlind (va_Pc as (fun U => zRel G h U.heap ∧ zEv G U)) := fun a U g mk ⟨h1, h2, h3⟩ => ⟨h1, h2, zEv_same (U := U.calling g mk a) (s := U) rfl h3⟩
/-- a field is written -/
theorem z_put {cc : ByteArray} {pc : Nat} {LS : Array Slot} {H : Heap} {locs : List Loc} {cells slots : Nat} {rest : List Value} {own C : String} {T : u_T} {N ci index : Nat} (hexec : p.tables.exec = Jvm.exec) (hb : c.code = cc) (hts : ∀ w ∈ zGW, w.before args s = true) (hok : zClsOk ci C T N) (hown : s.vm.findClass own = some m.cls)
    {tys : List (ClassId × FieldType)} {D : va_G} (hK : va_K D vwCl tys s) (hc : vwCl[ci]? = some (C, T, N)) {a : Nat} {V : Nat → Value} (hob : t_OB a (D.1 ci) N (D.2 ci) H V) (k : Nat) (hk : k < N) (hlink : (Cond.fieldLink own index C (T k).2.1 (T k).2.2.1).before args s = true)
    (hfin : (T k).2.2.2 = false ∨ ((T k).2.2.2 = true ∧ meth.name = "<init>" ∧ C = own)) {ty : FieldType} {v : Value} (hd : parseFieldDescriptor (T k).2.2.1 = some ty) (hn : narrow ty v = v) (hfit : fits ty v = true) (hdg : decode cc pc = .ok (.putfield index, 3))
    (kk : ∀ (H1 : Heap) (i : Nat), H1.size = H.size → (∀ q, q ≠ a → H1[q]? = H[q]?) → t_OB a (D.1 ci) N (D.2 ci) H1 (updV V k v) → W p l e R s m args below meth c H1 (locs ++ [⟨a, i⟩]) cells slots Qm (F0 m (pc + 3) LS rest)) : W p l e R s m args below meth c H locs cells slots Qm (F0 m pc LS (v :: .ref a :: rest)) := by
  obtain ⟨hin, ⟨ty0, hty⟩, hnm, hT1, -⟩ := hok
  have hap := va_apart (own := own) hts hin ty0 hty hnm hK hc
  obtain ⟨cell, q1, q2, q3, q4⟩ := hob
  obtain ⟨hS, hfc, kC, hkC, hkind⟩ := hK.1 ci _ hc
  obtain ⟨cf, kf, fi, f, hi, hsl⟩ := hS k hk
  have hi' : s.fieldFound? C (T k).2.1 (T k).2.2.1 = some (cf, kf, fi, f) := by rw [← hT1 k hk]; exact hi
  have hlay := hts _ (hin _ (u_in_lay hk))
  have hst := (u_facts hfc hkC (u_lays hts hin hk) hi).1
  rcases hfin with hfin | ⟨hfin, hin2, hdecl⟩
  · unfold u_lay at hlay
    rw [if_neg (by rw [hfin]; decide)] at hlay
    have h6 := u_store hfc hkC hkind hlay hi hd hn hfit
    refine W.putK hexec hb (f := f) ⟨hown, hlink, ⟨_, _, _, hi'⟩, hst⟩ (by rw [q2]; exact h6) q1 q3 (by rw [hsl]; exact k2_hasslot (q4 k hk)) rfl rfl hdg fun H' e1 e2 e3 => ?_
    rw [hsl] at e1 ⊢
    exact kk H' _ e2 e3 ⟨_, e1, q2, q3, t_set q4 hap hk v⟩
  · unfold u_lay at hlay
    rw [if_pos hfin] at hlay
    have hcf : m.cls = cf := by
      obtain ⟨_, _, c', _, _, _, -, -, hf', -, -, -, hown2, -⟩ := Cond.laysFinal_spec hlay
      have e1 : c' = cf := by have := hi.symm.trans hf'; simp at this; exact this.1.symm
      rw [hT1 k hk, hdecl] at hown2
      rw [← e1]; exact Option.some.inj (hown.symm.trans hown2)
    have h6 := u_fits hfc hkC hkind (Or.inr hlay) hi hd hn hfit
    refine W.putFinK hexec hb hown hlink hi' hst hcf hin2 (by rw [q2]; exact h6) q1 q3 (by rw [hsl]; exact k2_hasslot (q4 k hk)) rfl rfl hdg fun H' e1 e2 e3 => ?_
    rw [hsl] at e1 ⊢
    exact kk H' _ e2 e3 ⟨_, e1, q2, q3, t_set q4 hap hk v⟩
/-- a piece of a row is copied into another one -/
theorem z_copy {cc : ByteArray} {pc : Nat} {LS : Array Slot} {H : Heap} {locs : List Loc} {cells slots : Nat} (hexec : p.tables.exec = Jvm.exec) (hb : c.code = cc) (hml : c.maxLocals = LS.size) {own : String} {index : Nat} (hown : s.vm.findClass own = some m.cls) (hlink : (Cond.methodLink own index arraycopyName).before args s = true) (hnat : (Cond.native arraycopyName).before args s = true) (hstat : (Cond.static arraycopyName).before args s = true) (hini : (Cond.initialized "java/lang/System").before args s = true)
    {cI : ClassId} (hAr : ArrOfT s cI .int) {a0 a n0 n1 : Nat} {f g : Nat → Int32} (hc0 : H[a0]? = some (arrV cI n0 (fun j => .int (f j)))) (hc1 : H[a]? = some (arrV cI n1 (fun j => .int (g j))))
    {sp dp n : Int32} (h1 : ¬ sp < 0) (h2 : ¬ dp < 0) (h3 : ¬ n < 0) (h4 : sp.toNatClampNeg + n.toNatClampNeg ≤ n0) (h5 : dp.toNatClampNeg + n.toNatClampNeg ≤ n1) (hframes : 1 ≤ R.frames) (hlocals : 48 ≤ R.locals) (hdg : decode cc pc = .ok (.invokestatic index, 3))
    (kk : ∀ (H1 : Heap) (L : List Loc), (∀ q ∈ L, q.base = a) → H1[a]? = some (arrV cI n1 (fun j => .int (zCpy f g sp.toNatClampNeg dp.toNatClampNeg n.toNatClampNeg j))) → H1.size = H.size → (∀ q, q ≠ a → H1[q]? = H[q]?) → W p l e R s m args below meth c H1 (locs ++ L) cells slots Qm (F0 m (pc + 3) LS [])) : W p l e R s m args below meth c H locs cells slots Qm (F0 m pc LS [.int n, .int dp, .ref a, .int sp, .ref a0]) := by
  have nn : ∀ z : Int32, ¬ z < 0 → z.toInt = (z.toNatClampNeg : Int) := by
    intro z hz
    have hz0 : (0 : Int) ≤ z.toInt := by
      have := Int32.not_lt.mp hz
      simpa using Int32.le_iff_toInt_le.mp this
    show z.toInt = ((z.toInt.toNat : Nat) : Int)
    omega
  intro T hT X
  obtain ⟨-, k0, hk0, cm0, hkk0⟩ := hAr n0 (fun j => .int (f j))
  obtain ⟨-, k1, hk1, cm1, hkk1⟩ := hAr n1 (fun j => .int (g j))
  obtain ⟨vm', X', step⟩ := X.arraycopy hexec hown hlink hnat hstat hini (src := a0) (dst := a) (cs := arrV cI n0 (fun j => .int (f j))) (cd := arrV cI n1 (fun j => .int (g j))) (srcPos := sp) (destPos := dp) (n := n) (by rw [hT]; exact hc0) (by rw [hT]; exact hc1)
    (fun _ h => by cases h) (fun _ h => by cases h) (fun h => by cases h) (fun h => by cases h) hk0 hk1 hkk0 hkk1 (by simp) h1 h2 h3
    (by rw [nn sp h1, nn n h3, arrV_size]; omega)
    (by rw [nn dp h2, nn n h3, arrV_size]; omega)
    (fun vm₁ _ i hi => by
      have e : (arrV cI n0 (fun j => .int (f j))).slots.getD (sp.toNatClampNeg + i) .null = .int (f (sp.toNatClampNeg + i)) := by
        rw [Array.getD_eq_getD_getElem?, arrV_read _ _ (by omega)]
        rfl
      refine ⟨?_, ?_⟩
      · rw [e]; rfl
      · rw [e]; exact trivial)
    (g := F0 m pc LS [.int n, .int dp, .ref a, .int sp, .ref a0]) rfl (by rw [hml]) (rest := []) rfl (by rw [hb]; exact hdg) hframes (by
      have hn : nativeFrameWords "java/lang/System" "arraycopy" 5 + 11 ≤ 48 := by decide +kernel
      show 2 * 0 + 0 + _ ≤ _
      omega)
  have e1 : copied (arrV cI n0 (fun j => .int (f j))) (arrV cI n1 (fun j => .int (g j))) sp dp n = arrV cI n1 (fun j => .int (va_cpy f g sp.toNatClampNeg dp.toNatClampNeg n.toNatClampNeg j)) := va_copied (fun z => .int z) cI cI f g h4
  rw [e1] at X' step
  have hl : a < H.size := (Array.getElem?_eq_some_iff.mp hc1).1
  have hheap : ((T.setVm vm').setCell a (arrV cI n1 (fun j => .int (va_cpy f g sp.toNatClampNeg dp.toNatClampNeg n.toNatClampNeg j)))).heap = H.setIfInBounds a (arrV cI n1 (fun j => .int (va_cpy f g sp.toNatClampNeg dp.toNatClampNeg n.toNatClampNeg j))) := by rw [← hT]; rfl
  obtain ⟨t, a1, b1⟩ := kk _ _ (fun q hq => by
      obtain ⟨z, -, hz⟩ := List.mem_map.mp hq
      rw [← hz]) (show (H.setIfInBounds a _)[a]? = some _ by simp [Array.getElem?_setIfInBounds, hl]; rfl) (by simp) (fun q hq => by simp [Array.getElem?_setIfInBounds, Ne.symm hq]) _ hheap X'
  exact ⟨t, step t a1, b1⟩
end ZW
