/-! The small machine is the large one's: what it says of a method holds of the bytecode. -/
abbrev zGl : Type := Nat × Heap × (Nat → Nat) × (Nat → ClassId) × (Nat → Nat → Nat) × (Nat → ClassId) × ClassId × (Nat → ClassId) × Nat × (Nat → Int32)
def zgn (G : zGl) : Nat := G.1
def zgH (G : zGl) : Heap := G.2.1
def zgo (G : zGl) : Nat → Nat := G.2.2.1
def zgC (G : zGl) : Nat → ClassId := G.2.2.2.1
def zgI (G : zGl) : Nat → Nat → Nat := G.2.2.2.2.1
def zgT (G : zGl) : Nat → ClassId := G.2.2.2.2.2.1
def zgJ (G : zGl) : ClassId := G.2.2.2.2.2.2.1
def zgR (G : zGl) : Nat → ClassId := G.2.2.2.2.2.2.2.1
def zgL (G : zGl) : Nat := G.2.2.2.2.2.2.2.2.1
def zgX (G : zGl) : Nat → Int32 := G.2.2.2.2.2.2.2.2.2
def zRo (G : zGl) (k : Nat) : Nat := if k < 8 then zgo G k else zgn G + (k - 8)
def zTr (G : zGl) (v : Value) : Value := match v with
  | .ref k => .ref (zRo G k)
  | v => v
def zRf (G : zGl) (r : Option Nat) : Value := match r with
  | none => .null
  | some k => .ref (zRo G k)
def zAt (G : zGl) (a : Nat) (c : zCell) (H : Heap) : Prop := match c with
  | .inl (ci, F) => ∀ r : vw_C, vwCl[ci]? = some r → t_OB a (zgC G ci) r.2.2 (zgI G ci) H (fun k => zTr G (F k))
  | .inr (.inl (t, n, f)) => (t < 3 → H[a]? = some (arrV (zgT G t) n (fun j => .int (f j)))) ∧ (t = 3 → a = zgo G 0 ∧ n = zgL G ∧ f = zgX G)
  | .inr (.inr (.inl (n, f))) => H[a]? = some (arrV (zgJ G) n (fun j => .long (f j)))
  | .inr (.inr (.inr (ci, n, f))) => H[a]? = some (arrV (zgR G ci) n (fun j => zRf G (f j)))
def zOld (c : zCell) : Prop := (∃ n f, c = zI 3 n f) ∨ ∃ F, c = zO 99 F
def zRel (G : zGl) (h : zH) (H : Heap) : Prop := H.size = zgn G + h.1.1 ∧ (∀ q, q < zgn G → H[q]? = (zgH G)[q]?) ∧ (∀ k, zAt G (zRo G k) (h.2 k) H) ∧ ∀ k, k < 8 → zOld (h.2 k)
def zLoc (G : zGl) (ls : List Value) (LS : Array Slot) (n : Nat) : Prop := ls.length = n ∧ LS.size = n ∧ lv_wf LS ∧ ∀ (k : Nat) (v : Value), ls[k]? = some v → (∀ b, v ≠ .float b) → LS[k]? = some (.val (zTr G v))
def zTys (G : zGl) : List (ClassId × FieldType) := [(zgT G 0, .int), (zgT G 1, .boolean), (zgT G 2, .byte), (zgJ G, .long), (zgR G 0, .object RX0), (zgR G 3, .object RX3), (zgR G 4, .object RX4)]
def zGok (G : zGl) : Prop := (zgH G).size = zgn G ∧ ∀ k, k < 8 → zgo G k < zgn G
def zEv (G : zGl) (U : State) : Prop := va_K (zgC G, zgI G) vwCl (zTys G) U ∧ va_X (zgo G 0) (zgL G) (zgX G) U (zgH G) ∧
  (∀ (own : String) (i : Nat) (y : MethodName) (host : String), Cond.methodLinkNest own i y host ∈ lw_tbl → va_Nw (.methodLinkNest own i y host) U) ∧ (∀ C : String, Cond.arrayOver (.object C) ∈ lw_tbl → va_AO C U) ∧
  (∀ (k : Nat) (q : Nat × String), zSix[k]? = some q → vk_R RX6 q.1 q.2 (zgo G (k + 1)) U) ∧
  vk_S 4 [6, 4, 5, 5] [[99, 108, 111, 99, 107, 115], [104, 101, 97, 114], [108, 105, 109, 105, 116], [108, 101, 97, 115, 116]] (fun i => zgo G (i + 1)) (fun i => zgo G (100 + i)) (fun q => zgn G ≤ q) U (zgH G) ∧
  va_Z "java/lang/String" "COMPACT_STRINGS" "Z" (.int 1) (fun q => zgn G ≤ q) U (zgH G) ∧ va_Zq "jdk/internal/util/Preconditions" "SIOOBE_FORMATTER" "Ljava/util/function/BiFunction;" (fun q => zgn G ≤ q) U (zgH G)
theorem zEv_warm {G : zGl} {s U : State} (hW : s.WarmedH U.vm) (h : zEv G s) : zEv G U := by
  obtain ⟨h1, h2, h3, h4, h5, h6, h7, h8⟩ := h
  exact ⟨va_K.moved hW.alike h1, va_X.moved hW.alike h2, fun own i y host hm => va_Nw.warmM hW (h3 own i y host hm), fun C hm => va_AO.moved hW.alike (h4 C hm), fun k q hq => (h5 k q hq).warm hW, vk_S.moved hW.alike h6, va_Z.moved hW.alike h7, va_Zq.moved hW.alike h8⟩
theorem zEv_same {G : zGl} {s U : State} (hv : U.vm = s.vm) (h : zEv G s) : zEv G U := by
  obtain ⟨h1, h2, h3, h4, h5, h6, h7, h8⟩ := h
  have ha : s.vm.Alike U.vm := by rw [hv]; exact Vm.Alike.refl _
  exact ⟨va_K.moved ha h1, va_X.moved ha h2, fun own i y host hm => va_Nw.same rfl hv.symm (h3 own i y host hm), fun C hm => va_AO.moved ha (h4 C hm), fun k q hq => (h5 k q hq).same hv, vk_S.moved ha h6, va_Z.moved ha h7, va_Zq.moved ha h8⟩
-- addresses
theorem zRo_new {G : zGl} {k : Nat} (h : 8 ≤ k) : zRo G k = zgn G + (k - 8) := if_neg (by omega)
theorem zRo_inj {G : zGl} (hG : zGok G) {a k : Nat} (ha : 8 ≤ a) (hk : k ≠ a) : zRo G k ≠ zRo G a := by
  rw [zRo_new ha]
  by_cases h : k < 8
  · rw [zRo, if_pos h]
    have := hG.2 k h
    omega
  · rw [zRo_new (by omega)]
    omega
theorem zRel_new {G : zGl} {h : zH} {H : Heap} {o : Nat} {c : zCell} (hR : zRel G h H) (hc : h.2 o = c) (hn : ¬ zOld c) : 8 ≤ o := by
  rcases Nat.lt_or_ge o 8 with hl | hl
  · exact absurd (hc ▸ hR.2.2.2 o hl) hn
  · exact hl
theorem zOld_O {ci : Nat} {F : Nat → Value} (h : ci ≠ 99) : ¬ zOld (zO ci F) := by
  rintro (⟨n, f, h1⟩ | ⟨F', h1⟩)
  · cases h1
  · cases h1; exact h rfl
theorem zOld_I {t n : Nat} {f : Nat → Int32} (h : t ≠ 3) : ¬ zOld (zI t n f) := by
  rintro (⟨n', f', h1⟩ | ⟨F', h1⟩)
  · cases h1; exact h rfl
  · cases h1
theorem zOld_L {n : Nat} {f : Nat → Int64} : ¬ zOld (zL n f) := by
  rintro (⟨n', f', h1⟩ | ⟨F', h1⟩) <;> cases h1
theorem zOld_R {ci n : Nat} {f : Nat → Option Nat} : ¬ zOld (zR ci n f) := by
  rintro (⟨n', f', h1⟩ | ⟨F', h1⟩) <;> cases h1
theorem zAt_kept {G : zGl} {a : Nat} {c : zCell} {H H1 : Heap} (hq : H1[a]? = H[a]?) (h : zAt G a c H) : zAt G a c H1 := by
  rcases c with ⟨ci, F⟩ | ⟨t, n, f⟩ | ⟨n, f⟩ | ⟨ci, n, f⟩
  · exact fun r hr => (h r hr).kept hq
  · exact ⟨fun ht => hq.trans (h.1 ht), h.2⟩
  · exact hq.trans h
  · exact hq.trans h
/-- a cell is written -/
theorem zRel_put {G : zGl} (hG : zGok G) {h : zH} {H H1 : Heap} {o : Nat} {c : zCell} (hR : zRel G h H) (ho : 8 ≤ o) (hz : H1.size = H.size) (oq : ∀ q, q ≠ zRo G o → H1[q]? = H[q]?) (hc : zAt G (zRo G o) c H1) : zRel G (zP h o c) H1 := by
  obtain ⟨h1, h2, h3, h4⟩ := hR
  refine ⟨hz.trans h1, fun q hq => ?_, fun k => ?_, fun k hk => ?_⟩
  · rw [oq q (by rw [zRo_new ho]; omega)]; exact h2 q hq
  · by_cases hk : k = o
    · subst hk
      show zAt G _ (zU h.2 k c k) H1
      rw [zU, if_pos rfl]; exact hc
    · show zAt G _ (zU h.2 o c k) H1
      rw [zU, if_neg hk]
      exact zAt_kept (oq _ (zRo_inj hG ho hk)) (h3 k)
  · show zOld (zU h.2 o c k)
    rw [zU, if_neg (by omega)]; exact h4 k hk
theorem zRel_lt {G : zGl} {h : zH} {H : Heap} (hG : zGok G) (hR : zRel G h H) {k : Nat} (hk : k < 8 + h.1.1) : zRo G k < H.size := by
  rw [hR.1]
  by_cases h8 : k < 8
  · rw [zRo, if_pos h8]; have := hG.2 k h8; omega
  · rw [zRo_new (by omega)]; omega
/-- a cell is made -/
theorem zRel_make {G : zGl} (hG : zGok G) {h : zH} {H H1 : Heap} {n : Nat} {c : zCell} (hR : zRel G h H) (hz : H1.size = H.size + 1) (oq : ∀ q, q < H.size → H1[q]? = H[q]?) (hc : zAt G H.size c H1) : zRel G (zNew h n c) H1 := by
  obtain ⟨h1, h2, h3, h4⟩ := hR
  have e8 : zRo G (8 + h.1.1) = H.size := by rw [zRo_new (by omega), h1]; omega
  refine ⟨by rw [hz, h1]; show _ = zgn G + (h.1.1 + 1); omega, fun q hq => ?_, fun k => ?_, fun k hk => ?_⟩
  · rw [oq q (by omega)]; exact h2 q hq
  · by_cases hk : k = 8 + h.1.1
    · subst hk
      show zAt G _ (zU h.2 _ c _) H1
      rw [zU, if_pos rfl, e8]; exact hc
    · show zAt G _ (zU h.2 _ c k) H1
      rw [zU, if_neg hk]
      by_cases hlt : zRo G k < H.size
      · exact zAt_kept (oq _ hlt) (h3 k)
      · -- a cell that isn't there says nothing
        have hno : H[zRo G k]? = none := by rw [Array.getElem?_eq_none_iff]; omega
        have hq := h3 k
        rcases hck : h.2 k with ⟨ci, F⟩ | ⟨t, n, f⟩ | ⟨n, f⟩ | ⟨ci, n, f⟩
        · rw [hck] at hq
          intro r hr
          obtain ⟨cell, q1, -⟩ := hq r hr
          rw [hno] at q1; cases q1
        · rw [hck] at hq
          refine ⟨fun ht => ?_, hq.2⟩
          have := hq.1 ht
          rw [hno] at this; cases this
        · rw [hck] at hq
          have : H[zRo G k]? = _ := hq
          rw [hno] at this; cases this
        · rw [hck] at hq
          have : H[zRo G k]? = _ := hq
          rw [hno] at this; cases this
  · show zOld (zU h.2 _ c k)
    rw [zU, if_neg (by omega)]; exact h4 k hk
-- locals
def zEn (G : zGl) (ls : List Value) : List (Nat × Value) := (List.range ls.length).filterMap fun (k : Nat) => match (ls[k]? : Option Value) with
  | some (Value.float _) => none
  | some v => some (k, zTr G v)
  | none => none
theorem zEn_mem {G : zGl} {ls : List Value} {k : Nat} {v : Value} (hk : ls[k]? = some v) (hv : ∀ b, v ≠ .float b) : (k, zTr G v) ∈ zEn G ls := by
  refine List.mem_filterMap.mpr ⟨k, List.mem_range.mpr (List.getElem?_eq_some_iff.mp hk).1, ?_⟩
  rw [hk]
  cases v <;> first | rfl | exact absurd rfl (hv _)
theorem zEn_of {G : zGl} {ls : List Value} {q : Nat × Value} (h : q ∈ zEn G ls) : ∃ v, ls[q.1]? = some v ∧ (∀ b, v ≠ .float b) ∧ q.2 = zTr G v := by
  obtain ⟨k, -, hk⟩ := List.mem_filterMap.mp h
  split at hk
  · cases hk
  · rename_i v hne hv
    cases hk
    exact ⟨v, hv, fun b hb => hne b hb, rfl⟩
  · cases hk
theorem zLoc_has {G : zGl} {ls : List Value} {LS : Array Slot} {n : Nat} (h : zLoc G ls LS n) : lv_has LS n (zEn G ls) := by
  refine ⟨h.2.1, h.2.2.1, fun q hq => ?_⟩
  obtain ⟨v, h1, h2, h3⟩ := zEn_of hq
  rw [h3]; exact h.2.2.2 _ v h1 h2
theorem zTr_cat {G : zGl} (v : Value) : (zTr G v).category = v.category := by cases v <;> rfl
theorem zLoc_st1 {G : zGl} {ls : List Value} {LS : Array Slot} {n i : Nat} {v : Value} (hl : ls.length = n) (hi : ∀ j, j + 1 = i → ∀ w, ls[j]? = some w → w.category = 2 → False) (h : lv_has LS n ((i, zTr G v) :: (zEn G ls).filter (fun q => !(q.1 == i) && !(q.1 + 1 == i && q.2.category == 2)))) : zLoc G (ls.set i v) LS n := by
  refine ⟨by rw [List.length_set]; exact hl, h.1, h.2.1, fun k w hk hw => ?_⟩
  by_cases hki : k = i
  · subst hki
    have : ls.length > k := by have := (List.getElem?_eq_some_iff.mp hk).1; rw [List.length_set] at this; exact this
    rw [List.getElem?_set_self this] at hk
    cases hk
    exact h.2.2 _ List.mem_cons_self
  · rw [List.getElem?_set_ne (Ne.symm hki)] at hk
    refine h.2.2 (k, zTr G w) (List.mem_cons_of_mem _ (List.mem_filter.mpr ⟨zEn_mem hk hw, ?_⟩))
    simp only [Bool.and_eq_true, Bool.not_eq_true', beq_eq_false_iff_ne, ne_eq, Bool.and_eq_false_iff]
    refine ⟨hki, ?_⟩
    by_cases hc : w.category = 2
    · by_cases h1 : k + 1 = i
      · exact (hi k h1 w hk hc).elim
      · exact Or.inl h1
    · exact Or.inr (by rw [zTr_cat]; exact hc)
theorem zLoc_st2 {G : zGl} {ls : List Value} {LS : Array Slot} {n i : Nat} {v : Value} (hl : ls.length = n) (hi : ∀ j, j + 1 = i → ∀ w, ls[j]? = some w → w.category = 2 → False) (h : lv_has LS n ((i, zTr G v) :: (zEn G ls).filter (fun q => !(q.1 == i) && (!(q.1 == i + 1) && !(q.1 + 1 == i && q.2.category == 2))))) : zLoc G ((ls.set i v).set (i + 1) zD) LS n := by
  refine ⟨by rw [List.length_set, List.length_set]; exact hl, h.1, h.2.1, fun k w hk hw => ?_⟩
  by_cases hk1 : k = i + 1
  · subst hk1
    have hlt := (List.getElem?_eq_some_iff.mp hk).1
    rw [List.length_set] at hlt
    rw [List.getElem?_set_self hlt] at hk
    cases hk
    exact absurd rfl (hw _)
  · rw [List.getElem?_set_ne (Ne.symm hk1)] at hk
    by_cases hki : k = i
    · subst hki
      have : ls.length > k := by have := (List.getElem?_eq_some_iff.mp hk).1; rw [List.length_set] at this; exact this
      rw [List.getElem?_set_self this] at hk
      cases hk
      exact h.2.2 _ List.mem_cons_self
    · rw [List.getElem?_set_ne (Ne.symm hki)] at hk
      refine h.2.2 (k, zTr G w) (List.mem_cons_of_mem _ (List.mem_filter.mpr ⟨zEn_mem hk hw, ?_⟩))
      simp only [Bool.and_eq_true, Bool.not_eq_true', beq_eq_false_iff_ne, ne_eq, Bool.and_eq_false_iff]
      refine ⟨hki, hk1, ?_⟩
      by_cases hc : w.category = 2
      · by_cases h1 : k + 1 = i
        · exact (hi k h1 w hk hc).elim
        · exact Or.inl h1
      · exact Or.inr (by rw [zTr_cat]; exact hc)
theorem zLoc_drop {G : zGl} {ls : List Value} {LS : Array Slot} {n k : Nat} (h : zLoc G ls LS n) : zLoc G (ls.set k zD) LS n := by
  refine ⟨by rw [List.length_set]; exact h.1, h.2.1, h.2.2.1, fun j v hj hv => ?_⟩
  by_cases e : j = k
  · subst e
    have hlt := (List.getElem?_eq_some_iff.mp hj).1
    rw [List.length_set] at hlt
    rw [List.getElem?_set_self hlt] at hj
    cases hj
    exact absurd rfl (hv _)
  · rw [List.getElem?_set_ne (Ne.symm e)] at hj
    exact h.2.2.2 j v hj hv
theorem zLoc_kill {G : zGl} {LS : Array Slot} {n : Nat} : ∀ (ks : List Nat) (ls : List Value), zLoc G ls LS n → zLoc G (zKill ks ls) LS n
  | [], _, h => h
  | k :: ks, ls, h => zLoc_kill ks (ls.set k zD) (zLoc_drop h)
theorem zLoc_kl {G : zGl} {LS : Array Slot} {n : Nat} {C : zCd} {pc : Nat} {ls : List Value} (h : zLoc G ls LS n) : zLoc G (zKl C pc ls) LS n := by
  unfold zKl
  split
  · exact zLoc_kill _ _ h
  · exact h
/-- the guard of a store -/
theorem zG_spec {b a : Nat} {ls : List Value} {K : List Value → Prop} (h : zG b a ls K) : ∃ ls', K ls' ∧ (ls' = ls ∨ ls' = ls.set (a - 1) zD) ∧ ∀ j, j + 1 = a → ∀ w, ls'[j]? = some w → w.category = 2 → False := by
  unfold zG at h
  split at h
  · split at h
    · exact ⟨ls, h, Or.inl rfl, fun j hj => by omega⟩
    · split at h
      · exact h.elim
      · exact h.elim
      · rename_i j x h1 h2
        refine ⟨ls, h, Or.inl rfl, fun i hi w hw hc => ?_⟩
        have e : i = j := by omega
        subst e
        cases w <;> first | (simp [Value.category] at hc; done) | exact (h1 _ hw).elim | exact (h2 _ hw).elim
  · refine ⟨_, h, Or.inr rfl, fun j hj w hw hc => ?_⟩
    have e : a - 1 = j := by omega
    rw [e] at hw
    have hlt := (List.getElem?_eq_some_iff.mp hw).1
    rw [List.length_set] at hlt
    rw [List.getElem?_set_self hlt] at hw
    cases hw
    simp [Value.category] at hc
theorem zG_loc {G : zGl} {a : Nat} {ls ls' : List Value} {LS : Array Slot} {n : Nat} (h : zLoc G ls LS n) (h1 : ls' = ls ∨ ls' = ls.set (a - 1) zD) : zLoc G ls' LS n := by
  rcases h1 with rfl | rfl
  · exact h
  · exact zLoc_drop h
