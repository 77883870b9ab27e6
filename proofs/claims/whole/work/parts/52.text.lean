/-! What a text tells, place by place; the class: values, names, numbers, signs -/
def evP (T : Nat → Int32) (f : Nat) : Nat → Int32
  | 0 => 0
  | k + 1 => evP T f k * 10 + (T (f + k) - 48)
abbrev rdF : Type := Int32 × Nat
abbrev rdS : Type := Nat × (Int32 × Int32 × Int32) × (Nat → Int32) × Bool × Bool
section D
variable (T : Nat → Int32) (n : Nat)
def tkW (p : Nat) : Int32 := evP T (tkF T n p) (tkE T n p - tkF T n p)
def nmP (lo hi : Int32) (p : Nat) : rdF ⊕ (Int32 × Nat) := if tkX T n p = true then .inl (1, tkF T n p) else if tkK T n p = 2 then (if tkW T n p < lo ∨ hi < tkW T n p then .inl (3, tkF T n p) else .inr (tkW T n p, tkE T n p)) else .inl (2, tkF T n p)
def sgP (p : Nat) : rdF ⊕ Nat := if tkX T n p = true then .inl (1, tkF T n p) else if tkK T n p = 3 then .inr (tkE T n p) else .inl (2, tkF T n p)
def nmM (f w : Nat) : Prop := ∀ j, j < (zTx w).length → T (f + j) = Int32.ofNat ((zTx w).getD j 0)
def nmQ (p w : Nat) : Prop := tkK T n p = 1 ∧ tkE T n p = tkF T n p + (zTx w).length ∧ nmM T (tkF T n p) w
end D
theorem nm_dec (T : Nat → Int32) (n p w : Nat) : nmQ T n p w ∨ ¬ nmQ T n p w := Classical.em _
noncomputable def nmB (T : Nat → Int32) (n p w : Nat) : Bool := @decide (nmQ T n p w) (Classical.propDecidable _)
theorem nmB_t {T : Nat → Int32} {n p w : Nat} (h : nmQ T n p w) : nmB T n p w = true := @decide_eq_true _ (Classical.propDecidable _) h
theorem nmB_f {T : Nat → Int32} {n p w : Nat} (h : ¬ nmQ T n p w) : nmB T n p w = false := @decide_eq_false _ (Classical.propDecidable _) h
theorem nmB_of {T : Nat → Int32} {n p w : Nat} (h : nmB T n p w = true) : nmQ T n p w := @of_decide_eq_true _ (Classical.propDecidable _) h
theorem nmB_k {T : Nat → Int32} {n p w : Nat} (h : nmB T n p w = true) : tkK T n p ≠ 0 := fun q => absurd ((nmB_of h).1.symm.trans q) (by decide)
noncomputable section E
variable (T : Nat → Int32) (n : Nat)
def sgO (p : Nat) (y : rdS) : rdF ⊕ rdS := match sgP T n p with
  | .inl f => .inl f
  | .inr p2 => .inr (p2, y.2)
/-- a line 'hear' -/
def heP (x : rdS) : rdF ⊕ rdS := match nmP T n 0 15 (tkE T n x.1) with
  | .inl f => .inl f
  | .inr (b, p1) => match nmP T n 0 (x.2.1.1 - 1) p1 with
    | .inl f => .inl f
    | .inr (r, p2) => if x.2.2.1 (16 * r.toNatClampNeg + b.toNatClampNeg) = -4 then (match nmP T n 0 9999 p2 with
        | .inl f => .inl f
        | .inr (t, p3) => sgO T n p3 (0, x.2.1, zU x.2.2.1 (16 * r.toNatClampNeg + b.toNatClampNeg) t, x.2.2.2))
      else .inl (4, tkF T n p1)
def lmP (x : rdS) : rdF ⊕ rdS := if x.2.2.2.1 = true then .inl (4, tkF T n x.1) else match nmP T n 0 99 (tkE T n x.1) with
  | .inl f => .inl f
  | .inr (v, p1) => sgO T n p1 (0, (x.2.1.1, v, x.2.1.2.2), x.2.2.1, true, x.2.2.2.2)
def lsP (x : rdS) : rdF ⊕ rdS := if x.2.2.2.2 = true then .inl (4, tkF T n x.1) else match nmP T n 2 6 (tkE T n x.1) with
  | .inl f => .inl f
  | .inr (v, p1) => sgO T n p1 (0, (x.2.1.1, x.2.1.2.1, v), x.2.2.1, x.2.2.2.1, true)
def lnP (x : rdS) : rdF ⊕ rdS := if nmB T n x.1 2 = true then heP T n x else if nmB T n x.1 3 = true then lmP T n x else if nmB T n x.1 4 = true then lsP T n x else .inl (2, tkF T n x.1)
def hdP (l q : Int32) : rdF ⊕ rdS := if tkX T n 0 = true then .inl (1, tkF T n 0) else if nmB T n 0 1 = true then (match nmP T n 1 7 (tkE T n 0) with
  | .inl f => .inl f
  | .inr (v, p1) => sgO T n p1 (0, (v, l, q), fun _ => -4, false, false)) else .inl (2, tkF T n 0)
def rdP : Nat → rdS → rdF ⊕ rdS
  | 0, x => .inr x
  | k + 1, x => if tkX T n x.1 = true then .inl (1, tkF T n x.1) else if tkK T n x.1 = 0 then .inr x else match lnP T n x with
    | .inl f => .inl f
    | .inr y => rdP k y
def txP (l q : Int32) : rdF ⊕ rdS := match hdP T n l q with
  | .inl f => .inl f
  | .inr y => rdP T n 301 y
end E
section C
variable {d : Nat} {e : Nat × Nat} {h : zH} {Q : zQ} {F : Nat → Value} {T : Nat → Int32} {n p : Nat}
theorem cR_evaluate {f g : Nat} (hF : h.2 9 = zO 6 F) (f0 : F 0 = .ref 10) (f7 : F 7 = .int (nI f)) (f8 : F 8 = .int (nI g)) (ht : tpA h n T) (hn : n ≤ 300) (hfg : f ≤ g) (hg : g ≤ n)
    (K : ∀ F', F' 9 = .int (evP T f (g - f)) → (∀ k, k ≠ 9 → F' k = F k) → Q none (zP h 9 (zO 6 F'))) : zW (d + 2) m_Text_evaluate e 0 [.ref 9, zD] [] h Q := by
  have tp : ∀ x, tpA (zP h 9 x) n T := fun x => ht.fr (zFr.put (A := fun z => z = 9) rfl) (by decide) (by decide)
  refine b_Text_evaluate_0 ⟨F, hF, ?_⟩
  rintro h2 rfl
  refine ⟨_, zP_same _ _ _, _, f7, ?_⟩
  have loop : ∀ k i (F1 : Nat → Value), f + i + k = g → F1 9 = .int (evP T f i) → (∀ k, k ≠ 9 → F1 k = F k) → zW (d + 2) m_Text_evaluate e 10 [.ref 9, .int (nI (f + i))] [] (zP h 9 (zO 6 F1)) Q := by
    intro k
    induction k with
    | zero =>
      intro i F1 hk h9 hr
      have e1 : g = f + i := by omega
      refine b_Text_evaluate_10 ⟨_, zP_same _ _ _, _, (hr 8 (by decide)).trans f8, ifT (nI_le (by omega) (by omega)) (K F1 ?_ hr)⟩
      rw [h9, show g - f = i by omega]
    | succ k ih =>
      intro i F1 hk h9 hr
      refine b_Text_evaluate_10 ⟨_, zP_same _ _ _, _, (hr 8 (by decide)).trans f8, ifF (nI_ge (by omega) (by omega)) ⟨_, zP_same _ _ _, _, h9, _, zP_same _ _ _, _, (hr 0 (by decide)).trans f0, (tp _).1.imp fun _ w => w.1, cT_byteAt (tp _) hn (by omega) ⟨_, rfl, _, zP_same _ _ _, ?_⟩⟩⟩
      rintro h11 rfl
      rw [zP_zP, nI_1, if_pos (by omega)]
      exact ih (i + 1) _ (by omega) rfl (fun k hk => by rw [zU_ne _ _ hk]; exact hr k hk)
  exact loop (g - f) 0 _ (by omega) rfl (fun k hk => zU_ne _ _ hk)
theorem cR_isName {w : Nat} (hw : 0 < (zTx w).length ∧ (zTx w).length < 10) (hF : h.2 9 = zO 6 F) (f0 : F 0 = .ref 10) (htr : trT F T n p) (ht : tpA h n T) (hn : n ≤ 300) (hp : p ≤ n)
    (K : Q (some (.int (b01 (nmB T n p w)))) h) : zW (d + 2) m_Text_isName e 0 [.ref 9, .ref w, zD] [] h Q := by
  have hne : ¬ zTx w = [] := fun q => by rw [q] at hw; exact absurd hw.1 (by decide)
  have hf := tkF_le (T := T) hp
  have he := tkE_le (T := T) hp
  have es : nI (tkE T n p) - nI (tkF T n p) = nI (tkE T n p - tkF T n p) := pk_sub he.1
  have no : ¬ nmQ T n p w → Q (some (.int (0 : Int32))) h := fun q => by rw [nmB_f q] at K; exact K
  refine b_Text_isName_0 ⟨F, hF, _, htr.1, ifB (fun c => ⟨F, hF, _, htr.2.2 (fun q => absurd (c.symm.trans q) (by decide)), F, hF, _, htr.2.1, hne, by simp, ?_⟩) (fun c => ⟨by decide, no (fun q => c q.1)⟩)⟩
  rw [es]
  refine ifB (fun c2 => ?_) (fun c2 => ⟨by decide, no (fun q => c2 ?_)⟩)
  · have e1 : tkE T n p - tkF T n p = (zTx w).length := (nI_eq (by omega) (by omega)).mp c2
    have loop : ∀ k i, i + k = (zTx w).length → (∀ j, j < i → T (tkF T n p + j) = Int32.ofNat ((zTx w).getD j 0)) → zW (d + 2) m_Text_isName e 28 [.ref 9, .ref w, .int (nI i)] [] h Q := by
      intro k
      induction k with
      | zero =>
        intro i hk hm
        have : i = (zTx w).length := by omega
        subst this
        refine b_Text_isName_28 ⟨hne, by simp, ifT (Int32.le_refl _) ⟨by decide, ?_⟩⟩
        rw [nmB_t (⟨c, by omega, hm⟩ : nmQ T n p w)] at K
        exact K
      | succ k ih =>
        intro i hk hm
        refine b_Text_isName_28 ⟨hne, by simp, ifF (show ¬ nI (zTx w).length ≤ nI i from nI_ge (by omega) (by omega)) ⟨F, hF, _, f0, F, hF, _, htr.2.1, ht.1.imp fun _ w => w.1, ?_⟩⟩
        rw [nI_add]
        refine cT_byteAt ht hn (by omega) ⟨_, rfl, zIn_nI (by omega) (by omega), by simp, ?_⟩
        rw [nI_clamp (by omega), if_pos (show tkF T n p + i < n by omega), nI_1]
        refine ifB (fun c3 => ih (i + 1) (by omega) (fun j hj => ?_)) (fun c3 => ⟨by decide, no (fun q => c3 (q.2.2 i (by omega)))⟩)
        by_cases e2 : j = i
        · rw [e2]; exact c3
        · exact hm j (by omega)
    exact loop _ 0 (Nat.zero_add _) (fun j hj => by omega)
  · show nI _ = nI _
    rw [q.2.1]
    congr 1
    omega
theorem cR_takeNumber {lo hi : Int32} (hF : h.2 9 = zO 6 F) (f0 : F 0 = .ref 10) (f8 : F 8 = .int (nI p)) (ht : tpA h n T) (hn : n ≤ 300) (hp : p ≤ n)
    (K1 : ∀ v p', nmP T n lo hi p = .inr (v, p') → p ≤ p' → p' ≤ n → ∀ F', (∀ k, k < 6 → F' k = F k) → F' 7 = .int (nI (tkF T n p)) → F' 8 = .int (nI p') → F' 9 = .int v → Q (some (.int 1)) (zP h 9 (zO 6 F')))
    (K0 : ∀ c w, nmP T n lo hi p = .inl (c, w) → ∀ F', F' 0 = F 0 → F' 1 = F 1 → F' 2 = .int c → F' 3 = .int (nI w) → Q (some (.int 0)) (zP h 9 (zO 6 F'))) : zW (d + 3) m_Text_takeNumber e 0 [.ref 9, .int lo, .int hi] [] h Q := by
  have hf := tkF_le (T := T) hp
  have he := tkE_le (T := T) hp
  have tp : ∀ x, tpA (zP h 9 x) n T := fun x => ht.fr (zFr.put (A := fun z => z = 9) rfl) (by decide) (by decide)
  refine b_Text_takeNumber_0 ⟨⟨F, hF⟩, cR_nextToken hF f0 f8 ht hn hp (fun hx F1 htr hr => ⟨_, rfl, ifF (by decide) ⟨_, zP_same _ _ _, _, htr.1, ?_⟩⟩) (fun hx F1 htr hr h2 h3 => ⟨_, rfl, ifT rfl ⟨by decide, K0 1 (tkF T n p) ?_ F1 (hr 0 (by omega)) (hr 1 (by omega)) h2 h3⟩⟩)⟩
  · refine ifB (fun c => ⟨⟨_, zP_same _ _ _⟩, cR_evaluate (zP_same _ _ _) ((hr 0 (by omega)).trans f0) htr.2.1 (htr.2.2 (fun q => absurd (c.symm.trans q) (by decide))) (tp _) hn he.1 he.2 (fun F2 h9 hr2 => ⟨rfl, ?_⟩)⟩) (fun c => ⟨⟨_, zP_same _ _ _⟩, cR_refuse (zP_same _ _ _) htr.2.1 ⟨_, rfl, ?_⟩⟩)
    · rw [zP_zP]
      have h9' : F2 9 = .int (tkW T n p) := h9
      have bad : tkW T n p < lo ∨ hi < tkW T n p → ∀ F', F' 0 = F 0 → F' 1 = F 1 → F' 2 = .int 3 → F' 3 = .int (nI (tkF T n p)) → Q (some (.int 0)) (zP h 9 (zO 6 F')) := fun cb => K0 3 (tkF T n p) (by unfold nmP; rw [if_neg (by rw [hx]; decide), if_pos c, if_pos cb])
      have e7 : F2 7 = .int (nI (tkF T n p)) := (hr2 7 (by decide)).trans htr.2.1
      refine ⟨_, zP_same _ _ _, _, h9', ifB (fun c1 => ⟨⟨_, zP_same _ _ _⟩, cR_refuse (zP_same _ _ _) e7 ⟨_, rfl, ifT rfl ⟨by decide, ?_⟩⟩⟩) (fun c1 => ⟨_, zP_same _ _ _, _, h9', ifB (fun c2 => ⟨by decide, ?_⟩) (fun c2 => ⟨⟨_, zP_same _ _ _⟩, cR_refuse (zP_same _ _ _) e7 ⟨_, rfl, ifT rfl ⟨by decide, ?_⟩⟩⟩)⟩)⟩
      · rw [zP_zP]
        exact bad (Or.inl c1) _ ((hr2 0 (by decide)).trans (hr 0 (by omega))) ((hr2 1 (by decide)).trans (hr 1 (by omega))) rfl rfl
      · refine K1 (tkW T n p) (tkE T n p) ?_ (by omega) he.2 F2 (fun k hk => (hr2 k (by omega)).trans (hr k (by omega))) e7 ((hr2 8 (by decide)).trans (htr.2.2 (fun q => absurd (c.symm.trans q) (by decide)))) h9'
        unfold nmP
        rw [if_neg (by rw [hx]; decide), if_pos c, if_neg (by rintro (q | q); exact c1 q; exact absurd c2 (Int32.not_le.mpr q))]
      · rw [zP_zP]
        exact bad (Or.inr (Int32.not_le.mp c2)) _ ((hr2 0 (by decide)).trans (hr 0 (by omega))) ((hr2 1 (by decide)).trans (hr 1 (by omega))) rfl rfl
    · rw [zP_zP]
      refine ⟨by decide, K0 2 (tkF T n p) ?_ _ (hr 0 (by omega)) (hr 1 (by omega)) rfl rfl⟩
      unfold nmP
      rw [if_neg (by rw [hx]; decide), if_neg c]
  · unfold nmP
    rw [if_pos hx]
theorem cR_takeSign (hF : h.2 9 = zO 6 F) (f0 : F 0 = .ref 10) (f8 : F 8 = .int (nI p)) (ht : tpA h n T) (hn : n ≤ 300) (hp : p ≤ n)
    (K1 : ∀ p', sgP T n p = .inr p' → p ≤ p' → p' ≤ n → ∀ F', (∀ k, k < 6 → F' k = F k) → F' 8 = .int (nI p') → Q (some (.int 1)) (zP h 9 (zO 6 F')))
    (K0 : ∀ c w, sgP T n p = .inl (c, w) → ∀ F', F' 0 = F 0 → F' 1 = F 1 → F' 2 = .int c → F' 3 = .int (nI w) → Q (some (.int 0)) (zP h 9 (zO 6 F'))) : zW (d + 3) m_Text_takeSign e 0 [.ref 9] [] h Q := by
  have hf := tkF_le (T := T) hp
  have he := tkE_le (T := T) hp
  refine b_Text_takeSign_0 ⟨⟨F, hF⟩, cR_nextToken hF f0 f8 ht hn hp (fun hx F1 htr hr => ⟨_, rfl, ifF (by decide) ⟨_, zP_same _ _ _, _, htr.1, ?_⟩⟩) (fun hx F1 htr hr h2 h3 => ⟨_, rfl, ifT rfl ⟨by decide, K0 1 (tkF T n p) ?_ F1 (hr 0 (by omega)) (hr 1 (by omega)) h2 h3⟩⟩)⟩
  · refine ifB (fun c => ⟨by decide, K1 (tkE T n p) ?_ (by omega) he.2 F1 (fun k hk => hr k (by omega)) (htr.2.2 (fun q => absurd (c.symm.trans q) (by decide)))⟩) (fun c => ⟨⟨_, zP_same _ _ _⟩, cR_refuse (zP_same _ _ _) htr.2.1 ⟨_, rfl, ?_⟩⟩)
    · unfold sgP
      rw [if_neg (by rw [hx]; decide), if_pos c]
    · rw [zP_zP]
      refine ifT rfl ⟨by decide, K0 2 (tkF T n p) ?_ _ (hr 0 (by omega)) (hr 1 (by omega)) rfl rfl⟩
      unfold sgP
      rw [if_neg (by rw [hx]; decide), if_neg c]
  · unfold sgP
    rw [if_pos hx]
end C
