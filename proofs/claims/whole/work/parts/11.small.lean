/-! Sheet, Tape, Drawer -/
theorem lc_le {x y : Int64} : lg_cmp x y ≤ 0 ↔ x ≤ y := by
  unfold lg_cmp
  by_cases h1 : x > y
  · rw [if_pos h1]; exact ⟨fun q => absurd q (by decide), fun q => absurd q (Int64.not_le.mpr h1)⟩
  · rw [if_neg h1]
    refine ⟨fun _ => Int64.not_lt.mp h1, fun _ => ?_⟩
    split <;> decide
theorem lc_lt {x y : Int64} : lg_cmp x y < 0 ↔ x < y := by
  unfold lg_cmp
  by_cases h1 : x > y
  · rw [if_pos h1]; exact ⟨fun q => absurd q (by decide), fun q => absurd (Int64.lt_trans q h1) Int64.lt_irrefl⟩
  · rw [if_neg h1]
    by_cases h2 : x = y
    · rw [if_pos h2]; exact ⟨fun q => absurd q (by decide), fun q => absurd (h2 ▸ q) Int64.lt_irrefl⟩
    · rw [if_neg h2]; exact ⟨fun _ => Int64.lt_of_le_of_ne (Int64.not_lt.mp h1) h2, fun _ => by decide⟩
theorem lc_gt {x y : Int64} : 0 < lg_cmp x y ↔ y < x := by
  unfold lg_cmp
  by_cases h1 : x > y
  · rw [if_pos h1]; exact ⟨fun _ => h1, fun _ => by decide⟩
  · rw [if_neg h1]
    refine ⟨fun q => ?_, fun q => absurd q h1⟩
    split at q <;> exact absurd q (by decide)
theorem lc_ge {x y : Int64} : 0 ≤ lg_cmp x y ↔ y ≤ x := by
  rw [← Int32.not_lt, lc_lt, Int64.not_lt]
theorem lc_eq {x y : Int64} : lg_cmp x y = 0 ↔ x = y := by
  unfold lg_cmp
  by_cases h1 : x > y
  · rw [if_pos h1]; exact ⟨fun q => absurd q (by decide), fun q => absurd (q ▸ h1) Int64.lt_irrefl⟩
  · rw [if_neg h1]
    by_cases h2 : x = y
    · rw [if_pos h2]; exact ⟨fun _ => h2, fun _ => rfl⟩
    · rw [if_neg h2]; exact ⟨fun q => absurd q (by decide), fun q => absurd q h2⟩
/-- a sheet at a, its cells behind it -/
def shA (h : zH) (a : Nat) (sz ln : Int32) (C : Nat → Int64) : Prop := (∃ F, h.2 a = zO 4 F ∧ F 0 = .int sz ∧ F 1 = .int ln ∧ F 2 = .ref (a + 1)) ∧ ∃ C0, h.2 (a + 1) = zL 48 C0 ∧ ∀ k, k < 48 → C0 k = C k
theorem shA.fr {A : Nat → Prop} {h h' : zH} {a : Nat} {sz ln : Int32} {C : Nat → Int64} (b : shA h a sz ln C) (f : zFr A h h') (h1 : ¬ A a) (h2 : ¬ A (a + 1)) : shA h' a sz ln C := by
  obtain ⟨⟨F, hF, q⟩, C0, hC, hC0⟩ := b
  exact ⟨⟨F, by rw [f a h1]; exact hF, q⟩, C0, by rw [f _ h2]; exact hC, hC0⟩
/-- THE TAPE: the cells 10, 11 -/
def tpA (h : zH) (n : Nat) (T : Nat → Int32) : Prop := (∃ F, h.2 10 = zO 5 F ∧ F 0 = .int (nI n) ∧ F 1 = .ref 11) ∧ ∃ T0, h.2 11 = zI 2 300 T0 ∧ ∀ k, k < n → T0 k = T k
theorem tpA.fr {A : Nat → Prop} {h h' : zH} {n : Nat} {T : Nat → Int32} (b : tpA h n T) (f : zFr A h h') (h1 : ¬ A 10) (h2 : ¬ A 11) : tpA h' n T := by
  obtain ⟨⟨F, hF, q⟩, T0, hT, hT0⟩ := b
  exact ⟨⟨F, by rw [f 10 h1]; exact hF, q⟩, T0, by rw [f 11 h2]; exact hT, hT0⟩
/-- behind the bytes from p on that are lo to hi (k are left) -/
def rnT (T : Nat → Int32) (lo hi : Int32) : Nat → Nat → Nat
  | 0, p => p
  | k + 1, p => if T p < lo ∨ hi < T p then p else rnT T lo hi k (p + 1)
theorem rnT_ge (T : Nat → Int32) (lo hi : Int32) : ∀ k p, p ≤ rnT T lo hi k p ∧ rnT T lo hi k p ≤ p + k
  | 0, p => ⟨Nat.le_refl _, Nat.le_refl _⟩
  | k + 1, p => by
    unfold rnT
    split
    · omega
    · have := rnT_ge T lo hi k (p + 1)
      omega
section C
variable {d : Nat} {e : Nat × Nat} {h : zH} {Q : zQ} {a : Nat}
theorem cS_isNothing {sz ln : Int32} {C : Nat → Int64} (hs : shA h a sz ln C) (K : Q (some (.int (if sz = -1 then 1 else 0))) h) : zW (d + 1) m_Sheet_isNothing e 0 [.ref a] [] h Q := by
  obtain ⟨⟨F, hF, f0, -⟩, -⟩ := hs
  refine b_Sheet_isNothing_0 ⟨F, hF, _, f0, ifB (fun c => ⟨by decide, ?_⟩) (fun c => ⟨by decide, ?_⟩)⟩
  · rw [if_pos c] at K; exact K
  · rw [if_neg c] at K; exact K
theorem cS_hasCell {sz ln : Int32} {C : Nat → Int64} {i : Int32} (hs : shA h a sz ln C) (K : Q (some (.int (if ¬ i < 0 ∧ i < sz then 1 else 0))) h) : zW (d + 1) m_Sheet_hasCell e 0 [.ref a, .int i] [] h Q := by
  obtain ⟨⟨F, hF, f0, -⟩, -⟩ := hs
  refine b_Sheet_hasCell_0 (ifB (fun c => ⟨by decide, ?_⟩) (fun c => ⟨F, hF, _, f0, ifB (fun c2 => ⟨by decide, ?_⟩) (fun c2 => ⟨by decide, ?_⟩)⟩))
  · rw [if_neg (fun q => q.1 c)] at K; exact K
  · rw [if_neg (fun q => Int32.not_lt.mpr c2 q.2)] at K; exact K
  · rw [if_pos ⟨c, Int32.not_le.mp c2⟩] at K; exact K
theorem cS_renew {sz ln sz2 ln2 : Int32} {C : Nat → Int64} (hs : shA h a sz ln C) (K : ∀ h', shA h' a sz2 ln2 (fun _ => 0) → zFr (fun q => q = a ∨ q = a + 1) h h' → Q none h') : zW (d + 2) m_Sheet_renew e 0 [.ref a, .int ln2, .int sz2] [] h Q := by
  obtain ⟨⟨F, hF, f0, f1, f2⟩, C0, hC, hC0⟩ := hs
  refine b_Sheet_renew_0 ⟨F, hF, ?_⟩
  rintro h2 rfl
  refine ⟨_, zP_same _ _ _, ?_⟩
  rintro h4 rfl
  rw [zP_zP]
  refine ⟨_, zP_same _ _ _, a + 1, f2, ?_⟩
  refine cJ_fillJ (f := C0) (n := 48) (by rw [zP_ne _ _ (by omega)]; exact hC) (by decide) (fun f' hf => ⟨rfl, ?_⟩)
  exact K _ ⟨⟨_, (zP_ne _ _ (by omega)).trans (zP_same _ _ _), rfl, rfl, f2⟩, f', zP_same _ _ _, hf⟩ ((zFr.put (Or.inl rfl)).trans (zFr.put (Or.inr rfl)))
theorem cS_putCell {sz ln : Int32} {C : Nat → Int64} {i : Nat} {v : Int32} (hs : shA h a sz ln C) (hi : i < 48) (K : ∀ h', shA h' a sz ln (zU C i (if ln = 0 then v.toInt16.toInt32.toInt64 else v.toInt64)) → zFr (fun q => q = a + 1) h h' → Q none h') : zW (d + 1) m_Sheet_putCell e 0 [.ref a, .int (nI i), .int v] [] h Q := by
  obtain ⟨⟨F, hF, f0, f1, f2⟩, C0, hC, hC0⟩ := hs
  have key : ∀ x : Int64, (∀ h', shA h' a sz ln (zU C i x) → zFr (fun q => q = a + 1) h h' → Q none h') → ∃ n5 f6, h.2 (a + 1) = zL n5 f6 ∧ zIn (nI i) n5 ∧ ∀ h7, h7 = zP h (a + 1) (zL n5 (zU f6 (nI i).toNatClampNeg x)) → Q none h7 := by
    intro x K
    refine ⟨48, C0, hC, zIn_nI hi (by decide), ?_⟩
    rintro h7 rfl
    rw [nI_clamp (by omega)]
    refine K _ ⟨⟨F, (zP_ne _ _ (by omega)).trans hF, f0, f1, f2⟩, _, zP_same _ _ _, fun k hk => ?_⟩ (zFr.put rfl)
    unfold zU
    split
    · rfl
    · exact hC0 k hk
  refine b_Sheet_putCell_0 ⟨F, hF, _, f2, F, hF, _, f1, ifB (fun c => key _ ?_) (fun c => key _ ?_)⟩
  · rw [if_pos c] at K; exact K
  · rw [if_neg c] at K; exact K
theorem cS_stampIn {sz ln : Int32} {C : Nat → Int64} {i : Nat} (hs : shA h a sz ln C) (hi : i < 48) (K : Q (some (.int (if 0 ≤ C i then (C i).toInt32 else -4))) h) : zW (d + 1) m_Sheet_stampIn e 0 [.ref a, .int (nI i)] [] h Q := by
  obtain ⟨⟨F, hF, f0, f1, f2⟩, C0, hC, hC0⟩ := hs
  refine b_Sheet_stampIn_0 ⟨F, hF, _, f2, 48, C0, hC, zIn_nI hi (by decide), ?_⟩
  rw [nI_clamp (by omega), hC0 i hi]
  refine ifB (fun c => ⟨F, hF, _, f2, 48, C0, hC, zIn_nI hi (by decide), ?_⟩) (fun c => ?_)
  · rw [hC0 i hi]
    rw [if_pos (lc_ge.mp c)] at K
    exact K
  · rw [if_neg (fun q => c (lc_ge.mpr q))] at K
    exact K
theorem cT_append {n : Nat} {T : Nat → Int32} {c : Int32} (ht : tpA h n T) (hn : n ≤ 300) (hc : c.toInt8.toInt32 = c) (K1 : n < 300 → ∀ h', tpA h' (n + 1) (zU T n c) → zFr (fun q => q = 10 ∨ q = 11) h h' → Q (some (.int 1)) h') (K0 : n = 300 → Q (some (.int 0)) h) : zW (d + 1) m_Tape_append e 0 [.ref 10, .int c] [] h Q := by
  obtain ⟨⟨F, hF, f0, f1⟩, T0, hT, hT0⟩ := ht
  refine b_Tape_append_0 ⟨F, hF, _, f0, ifB (fun c1 => ?_) (fun c1 => ⟨by decide, K0 ?_⟩)⟩
  · have hlt : n < 300 := (nI_ltI (b := 300) (by omega) (by decide)).mp c1
    refine ⟨F, hF, _, f1, F, hF, _, f0, 300, T0, hT, zIn_nI hlt (by decide), ?_⟩
    rintro h9 rfl
    refine ⟨F, (zP_ne _ _ (by decide)).trans hF, _, f0, F, (zP_ne _ _ (by decide)).trans hF, ?_⟩
    rintro h13 rfl
    refine ⟨by decide, K1 hlt _ ⟨⟨_, zP_same _ _ _, by rw [zU_same]; exact congrArg _ (nI_1 n), f1⟩, _, (zP_ne _ _ (by decide)).trans (zP_same _ _ _), fun k hk => ?_⟩ ((zFr.put (Or.inr rfl)).trans (zFr.put (Or.inl rfl)))⟩
    rw [nI_clamp (by omega), hc, hc]
    unfold zU
    split
    · rfl
    · exact hT0 k (by omega)
  · have := mt (nI_ltI (a := n) (b := 300) (by omega) (by decide)).mpr c1
    omega
theorem cT_byteAt {n p : Nat} {T : Nat → Int32} (ht : tpA h n T) (hn : n ≤ 300) (hp : p < 2 ^ 31) (K : Q (some (.int (if p < n then T p else 0))) h) : zW (d + 1) m_Tape_byteAt e 0 [.ref 10, .int (nI p)] [] h Q := by
  obtain ⟨⟨F, hF, f0, f1⟩, T0, hT, hT0⟩ := ht
  refine b_Tape_byteAt_0 (ifF (nI_pos hp) ⟨F, hF, _, f0, ifB (fun c => ?_) (fun c => ⟨F, hF, _, f1, 300, T0, hT, zIn_nI ?_ (by decide), ?_⟩)⟩)
  · rw [if_neg (by have := (nI_leI (by omega) hp).mp c; omega)] at K; exact K
  · have := mt (nI_leI (a := n) (b := p) (by omega) hp).mpr c
    omega
  · have := mt (nI_leI (a := n) (b := p) (by omega) hp).mpr c
    rw [if_pos (by omega)] at K
    rw [nI_clamp (by omega), hT0 p (by omega)]
    exact K
theorem cT_behindRun {n p : Nat} {T : Nat → Int32} {lo hi : Int32} (ht : tpA h n T) (hn : n ≤ 300) (hp : p ≤ n) (K : Q (some (.int (nI (rnT T lo hi (n - p) p)))) h) : zW (d + 1) m_Tape_behindRun e 0 [.ref 10, .int (nI p), .int lo, .int hi, zD] [] h Q := by
  refine b_Tape_behindRun_0 ?_
  obtain ⟨⟨F, hF, f0, f1⟩, T0, hT, hT0⟩ := ht
  have loop : ∀ k p, p + k = n → Q (some (.int (nI (rnT T lo hi k p)))) h → zW (d + 1) m_Tape_behindRun e 3 [.ref 10, zD, .int lo, .int hi, .int (nI p)] [] h Q := by
    intro k
    induction k with
    | zero =>
      intro p hk K2
      have : p = n := by omega
      subst this
      exact b_Tape_behindRun_3 (ifF (nI_pos (by omega)) ⟨F, hF, _, f0, ifT (Int32.le_refl _) ⟨F, hF, _, f0, K2⟩⟩)
    | succ k ih =>
      intro p hk K2
      refine b_Tape_behindRun_3 (ifF (nI_pos (by omega)) ⟨F, hF, _, f0, ifF (nI_ge (by omega) (by omega)) ⟨F, hF, _, f1, 300, T0, hT, zIn_nI (by omega) (by decide), ?_⟩⟩)
      rw [nI_clamp (by omega), hT0 p (by omega)]
      unfold rnT at K2
      refine ifB (fun c => ?_) (fun c => ⟨F, hF, _, f1, 300, T0, hT, zIn_nI (by omega) (by decide), ?_⟩)
      · rw [if_pos (Or.inl c)] at K2; exact K2
      · rw [hT0 p (by omega), nI_1]
        refine ifB (fun c2 => ?_) (fun c2 => ?_)
        · rw [if_neg (by rintro (q | q); exact c q; exact Int32.not_lt.mpr c2 q)] at K2
          exact ih (p + 1) (by omega) K2
        · rw [if_pos (Or.inr (Int32.not_le.mp c2))] at K2; exact K2
  exact loop (n - p) p (by omega) K
end C
