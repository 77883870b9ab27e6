theorem zOwn_ok : ∀ q ∈ zMs, zOwn[zrO q]? = some q.1.cls := by
  have h : (zMs.all fun q => decide (zOwn[zrO q]? = some q.1.cls)) = true := by decide +kernel
  intro q hq
  exact of_decide_eq_true (List.all_eq_true.mp h q hq)
theorem zNotLaw : ∀ q ∈ zMs, q.1.cls ≠ RL := by
  have h : (zMs.all fun q => decide (q.1.cls ≠ RL)) = true := by decide +kernel
  intro q hq
  exact of_decide_eq_true (List.all_eq_true.mp h q hq)
theorem zMs_len : zMs.length = 200 := by decide +kernel
theorem zArgs {G : zGl} : ∀ (as : List Value) (i : Nat) (k : Nat) (v : Value), (zLay as)[k]? = some v → (∀ b, v ≠ .float b) → (i + k, zTr G v) ∈ lv_args i (as.map (zTr G))
  | [], i, k, v, h, _ => by simp [zLay] at h
  | w :: as, i, k, v, h, hv => by
    have one : ∀ w : Value, w.category = 1 → (zLay (w :: as) = w :: zLay as) → (zLay (w :: as))[k]? = some v → (i + k, zTr G v) ∈ lv_args i ((w :: as).map (zTr G)) := by
      intro w hw e h
      rw [e] at h
      have e2 : lv_args i ((w :: as).map (zTr G)) = (i, zTr G w) :: lv_args (i + 1) (as.map (zTr G)) := by
        show (i, zTr G w) :: lv_args (if (zTr G w).category = 2 then i + 2 else i + 1) (as.map (zTr G)) = _
        rw [zTr_cat, hw, if_neg (by decide)]
      rw [e2]
      cases k with
      | zero => cases h; exact List.mem_cons_self
      | succ k =>
        have := zArgs (G := G) as (i + 1) k v h hv
        rw [show i + 1 + k = i + (k + 1) by omega] at this
        exact List.mem_cons_of_mem _ this
    have two : ∀ w : Value, w.category = 2 → (zLay (w :: as) = w :: zD :: zLay as) → (zLay (w :: as))[k]? = some v → (i + k, zTr G v) ∈ lv_args i ((w :: as).map (zTr G)) := by
      intro w hw e h
      rw [e] at h
      have e2 : lv_args i ((w :: as).map (zTr G)) = (i, zTr G w) :: lv_args (i + 2) (as.map (zTr G)) := by
        show (i, zTr G w) :: lv_args (if (zTr G w).category = 2 then i + 2 else i + 1) (as.map (zTr G)) = _
        rw [zTr_cat, hw, if_pos rfl]
      rw [e2]
      match k, h with
      | 0, h => cases h; exact List.mem_cons_self
      | 1, h => cases h; exact absurd rfl (hv _)
      | k + 2, h =>
        have := zArgs (G := G) as (i + 2) k v h hv
        rw [show i + 2 + k = i + (k + 2) by omega] at this
        exact List.mem_cons_of_mem _ this
    cases w with
    | int x => exact one _ rfl rfl h
    | float x => exact one _ rfl rfl h
    | null => exact one _ rfl rfl h
    | ref x => exact one _ rfl rfl h
    | retAddr x => exact one _ rfl rfl h
    | long x => exact two _ rfl rfl h
    | double x => exact two _ rfl rfl h
theorem zPad_len : ∀ (n : Nat) (vs : List Value), (zPad n vs).length = n
  | 0, _ => rfl
  | n + 1, [] => by simp [zPad, zPad_len n []]
  | n + 1, v :: vs => by simp [zPad, zPad_len n vs]
theorem zPad_get : ∀ (n : Nat) (vs : List Value) (k : Nat) (v : Value), (zPad n vs)[k]? = some v → (∀ b, v ≠ .float b) → vs[k]? = some v
  | 0, vs, k, v, h, _ => by simp [zPad] at h
  | n + 1, [], k, v, h, hv => by
    exfalso
    cases k with
    | zero => cases h; exact hv _ rfl
    | succ k =>
      have := zPad_get n [] k v h hv
      simp at this
  | n + 1, w :: vs, k, v, h, hv => by
    cases k with
    | zero => exact h
    | succ k => exact zPad_get n vs k v h hv
theorem zLay_len {G : zGl} : ∀ as : List Value, (lg_sl (as.map (zTr G))).length = (zLay as).length
  | [] => rfl
  | w :: as => by
    have ih := zLay_len (G := G) as
    unfold lg_sl at ih ⊢
    rw [List.map_cons, List.flatMap_cons, List.length_append, ih, zTr_cat]
    cases w <;> simp [Value.category, zLay] <;> omega
/-- the locals as a method begins -/
theorem zLoc_entry {G : zGl} {as : List Value} {n : Nat} (h : (zLay as).length ≤ n) : zLoc G (zPad n (zLay as)) ((lg_sl (as.map (zTr G)) ++ List.replicate (n - (lg_sl (as.map (zTr G))).length) Slot.unset).toArray) n := by
  have hl := lv_entry (as.map (zTr G)) (n := n) (by rw [zLay_len]; exact h)
  refine ⟨zPad_len _ _, hl.1, hl.2.1, fun k v hk hv => ?_⟩
  have h1 := zArgs (G := G) as 0 k v (zPad_get _ _ _ _ hk hv) hv
  rw [Nat.zero_add] at h1
  exact hl.2.2 _ h1
def zStrAll (G : zGl) (l : Launch) : Prop := ∀ (p : Program) (e : Env) (R : Room) (s : State) (m : MethodId) (args : Array Value) (below : List Frame) (meth : Method) (c : Code) (r : zRec) (B : Nat × Nat) (Qm : State → Prop), zCx G p R s m args meth c r B → zStr G l p e R s m args below meth c r Qm
section ZW
variable {l : Launch} {p : Program} {e : Env} {R : Room} {s : State} {m : MethodId} {args : Array Value} {below : List Frame} {meth : Method} {c : Code} {G : zGl} {r : zRec} {eb : Nat × Nat} {Qm : State → Prop}
/-- one method, its calls given -/
theorem zSoundW {d y : Nat} {B : Nat × Nat} (hB : (zT y).2.1 = B) (cx : zCx G p R s m args meth c r B) (hS : zStrAll G l) (htab : zTok y r) (hcall : ∀ z as h K, zCl zT d z as h K → zMeet l G z as h K) {Q : zQ} (hret : zRtn G l p e R s m args below meth c r B eb Qm Q) {pc : Nat} {ls st : List Value} {h : zH}
    (hw : zWg zT (d + 1) y eb pc ls st h Q) : zWm G l p e R s m args below meth c r B eb Qm pc ls st h := by
  subst hB
  refine hw (zWm G l p e R s m args below meth c r (zT y).2.1 eb Qm) fun pc ls st h t ht hs => ?_
  exact zStep cx (htab pc t ht) (fun pc ls st h hI H locs cells slots LS hR hl hL h1 h2 h3 h4 => hI H locs cells slots LS hR hl (zLoc_kl hL) h1 h2 h3 h4) hcall hret (hS p e R s m args below meth c r _ Qm cx) hs
end ZW
set_option maxHeartbeats 2000000 in
/-- every method, to every depth -/
theorem zSound {G : zGl} {l : Launch} (hG : zGok G) (hS : zStrAll G l) : ∀ (d z : Nat) (as : List Value) (h : zH) (K : zQ), zCl zT d z as h K → zMeet l G z as h K
  | 0, z, as, h, K, hc => (zBif hc).2.elim
  | d + 1, z, as, h, K, hc => by
    obtain ⟨hlen, hc⟩ := zBif hc
    have hlen := Nat.le_of_ble_eq_true hlen
    intro q hq
    have hqm := List.mem_of_getElem? hq
    obtain ⟨m1, m2, m3, m4, m5, m6, m7⟩ := zMs_ok q hqm
    have hz : z < 200 := by have := (List.getElem?_eq_some_iff.mp hq).1; rw [zMs_len] at this; exact this
    obtain ⟨htab, hml0⟩ := zk_all z hz q hq
    refine va_MetF (cc := zrB q) (maxL := zrL q) (ret := zrT q) m4 rfl ?_
    intro p e s m args below meth c s₁ Bd hml hv
    obtain ⟨rfl, hR, hE⟩ := hv
    have hts0 := atoms_spec (ws := zWs q) Bd.pre
    have cx : zCx G p (zRm z q) s m ((as.map (zTr G)).toArray) meth c q (zT z).2.1 := ⟨Bd.exec, Bd.bytes, hml, ⟨q.1.cls, zOwn_ok q hqm, findClass_of_methodNamed Bd.named⟩, fun w hw => hts0 w (List.mem_cons_of_mem _ hw), fun hi => by rw [(name_of_methodNamed Bd.named Bd.method).1]; exact hi, Nat.le_refl _, Nat.le_refl _, Nat.le_refl _, Nat.le_refl _, hE, hG⟩
    have hrr : meth.sig.returnType = zrT q := Bd.returns
    have hlocks := Bd.notSynchronized
    rw [lg_entry_eq]
    rw [hml0] at hc hlen
    refine zSoundW (B := (zT z).2.1) rfl cx hS htab (fun z as h K => zSound hG hS d z as h K) ?_ hc s.heap [] 0 0 _ hR (fun q hq => by cases hq) (zLoc_entry hlen) rfl rfl (Nat.zero_le _) (Nat.zero_le _)
    intro v h' pc ins H locs cells slots LS hQ hR' hl h1 h2 h3 h4 hok hdg hex
    have hex : h'.1 = (h.1.1 + (zT z).2.1.1, h.1.2 + (zT z).2.1.2) := by
      rcases hex with hex | hex
      · exact hex
      · exfalso
        have := zOwn_ok q hqm
        rw [hex] at this
        have h11 : RL = q.1.cls := Option.some.inj this
        exact zNotLaw q hqm h11.symm
    have hc1 : cells = (zT z).2.1.1 := by rw [hex] at h1; dsimp only at h1; omega
    have hc2 : slots = (zT z).2.1.2 := by rw [hex] at h2; dsimp only at h2; omega
    subst hc1
    subst hc2
    have hqc : ∀ t : State, t.heap = H → s.WarmedH t.vm → zQc G K h (zT z).2.1 ((as.map (zTr G)).toArray) s (.returned (v.map (zTr G))) t := fun t ht _ => ⟨v, h', rfl, hQ, by rw [ht]; exact hR', hex⟩
    rcases hok with ⟨rfl, x, rfl, hx | ⟨hx, hx2⟩⟩ | ⟨rfl, hx, x, rfl⟩ | ⟨rfl, ⟨ty, hx, hx2⟩, x, rfl⟩ | ⟨rfl, hx, rfl⟩
    · exact W.iret Bd.exec Bd.bytes (hrr.trans hx) hqc hl hdg
    · exact W.zret Bd.exec Bd.bytes (hrr.trans hx) (by rcases hx2 with rfl | rfl <;> rfl) hqc hl hdg
    · exact W.lret Bd.exec Bd.bytes (hrr.trans hx) hqc hl hdg
    · refine W.aret Bd.exec Bd.bytes (hrr.trans hx) ?_ (Or.inr ⟨_, rfl⟩) hqc hl hdg
      cases ty <;> first | (exfalso; simp [zKd] at hx2; done) | exact Or.inl ⟨_, rfl⟩ | exact Or.inr ⟨_, rfl⟩
    · exact W.vret Bd.exec Bd.bytes (hrr.trans hx) hqc hl hdg
