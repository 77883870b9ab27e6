/-! Least weights: rounds of relaxing, and that six of them are enough -/
def bI : Nat := 10000000
def imp (w : Nat → Nat → Nat) (D : Nat → Nat) (r s : Nat) : Bool := decide (w r s ≠ 0) && decide (w r s + D s < D r)
def rlx (w : Nat → Nat → Nat) (D : Nat → Nat) (r s : Nat) : Nat → Nat := if imp w D r s = true then zU D r (w r s + D s) else D
def rlR (w : Nat → Nat → Nat) (r : Nat) (D : Nat → Nat) : Nat → (Nat → Nat)
  | 0 => D
  | s + 1 => rlx w (rlR w r D s) r s
def flR (w : Nat → Nat → Nat) (r : Nat) (D : Nat → Nat) : Nat → Bool
  | 0 => false
  | s + 1 => flR w r D s || imp w (rlR w r D s) r s
def rlA (w : Nat → Nat → Nat) (N : Nat) (D : Nat → Nat) : Nat → (Nat → Nat)
  | 0 => D
  | r + 1 => rlR w r (rlA w N D r) N
def flA (w : Nat → Nat → Nat) (N : Nat) (D : Nat → Nat) : Nat → Bool
  | 0 => false
  | r + 1 => flA w N D r || flR w r (rlA w N D r) N
def bfD (w : Nat → Nat → Nat) (N a : Nat) : Nat → (Nat → Nat)
  | 0 => zU (fun _ => bI) a 0
  | k + 1 => rlA w N (bfD w N a k) N
section P
variable {w : Nat → Nat → Nat} {D : Nat → Nat} {N a r s : Nat}
theorem imp_t (h : imp w D r s = true) : w r s ≠ 0 ∧ w r s + D s < D r := by
  unfold imp at h
  simp only [Bool.and_eq_true, decide_eq_true_eq] at h
  exact h
theorem imp_f (h : imp w D r s = false) (hw : w r s ≠ 0) : D r ≤ w r s + D s := by
  unfold imp at h
  simp only [Bool.and_eq_false_iff, decide_eq_false_iff_not] at h
  omega
theorem rlx_t (h : imp w D r s = true) : rlx w D r s = zU D r (w r s + D s) := if_pos h
theorem rlx_f (h : imp w D r s = false) : rlx w D r s = D := if_neg (by rw [h]; exact Bool.false_ne_true)
theorem flR_f : ∀ n, flR w r D n = false → rlR w r D n = D ∧ ∀ s, s < n → imp w D r s = false
  | 0, _ => ⟨rfl, fun s hs => absurd hs (Nat.not_lt_zero s)⟩
  | n + 1, h => by
    have h' : (flR w r D n || imp w (rlR w r D n) r n) = false := h
    rw [Bool.or_eq_false_iff] at h'
    obtain ⟨e1, e2⟩ := flR_f n h'.1
    have e3 := h'.2
    rw [e1] at e3
    refine ⟨?_, fun s hs => ?_⟩
    · show rlx w (rlR w r D n) r n = D
      rw [e1, rlx_f e3]
    · by_cases e : s = n
      · rw [e]; exact e3
      · exact e2 s (by omega)
theorem flA_f : ∀ n, flA w N D n = false → rlA w N D n = D ∧ ∀ r, r < n → ∀ s, s < N → imp w D r s = false
  | 0, _ => ⟨rfl, fun s hs => absurd hs (Nat.not_lt_zero s)⟩
  | n + 1, h => by
    have h' : (flA w N D n || flR w n (rlA w N D n) N) = false := h
    rw [Bool.or_eq_false_iff] at h'
    obtain ⟨e1, e2⟩ := flA_f n h'.1
    have e3 := h'.2
    rw [e1] at e3
    obtain ⟨f1, f2⟩ := flR_f N e3
    refine ⟨?_, fun r hr => ?_⟩
    · show rlR w n (rlA w N D n) N = D
      rw [e1, f1]
    · by_cases e : r = n
      · rw [e]; exact f2
      · exact e2 r (by omega)
theorem flR_i (n : Nat) (h : ∀ s, s < n → imp w D r s = false) : flR w r D n = false ∧ rlR w r D n = D := by
  induction n with
  | zero => exact ⟨rfl, rfl⟩
  | succ n ih =>
    obtain ⟨e1, e2⟩ := ih (fun s hs => h s (by omega))
    have e3 := h n (by omega)
    refine ⟨?_, ?_⟩
    · show (flR w r D n || imp w (rlR w r D n) r n) = false
      rw [e1, e2, e3]; rfl
    · show rlx w (rlR w r D n) r n = D
      rw [e2, rlx_f e3]
theorem flA_i (n : Nat) (h : ∀ r, r < n → ∀ s, s < N → imp w D r s = false) : flA w N D n = false ∧ rlA w N D n = D := by
  induction n with
  | zero => exact ⟨rfl, rfl⟩
  | succ n ih =>
    obtain ⟨e1, e2⟩ := ih (fun s hs => h s (by omega))
    obtain ⟨e3, e4⟩ := flR_i (w := w) (D := D) (r := n) N (h n (by omega))
    refine ⟨?_, ?_⟩
    · show (flA w N D n || flR w n (rlA w N D n) N) = false
      rw [e1, e2, e3]; rfl
    · show rlR w n (rlA w N D n) N = D
      rw [e2, e4]
theorem rlx_le (x : Nat) : rlx w D r s x ≤ D x := by
  unfold rlx
  split
  · rename_i c
    unfold zU
    split
    · rename_i e; subst e; exact Nat.le_of_lt (imp_t c).2
    · exact Nat.le_refl _
  · exact Nat.le_refl _
theorem rlR_le (x : Nat) : ∀ n, rlR w r D n x ≤ D x
  | 0 => Nat.le_refl _
  | n + 1 => Nat.le_trans (rlx_le x) (rlR_le x n)
/-- a property of D that relaxing keeps, a whole round keeps -/
theorem rlR_keep {X : (Nat → Nat) → Prop} (hX : ∀ D r s, r < N → s < N → X D → X (rlx w D r s)) (hr : r < N) (h : X D) : ∀ n, n ≤ N → X (rlR w r D n)
  | 0, _ => h
  | n + 1, hn => hX _ r n hr (by omega) (rlR_keep hX hr h n (by omega))
theorem rlA_keep {X : (Nat → Nat) → Prop} (hX : ∀ D r s, r < N → s < N → X D → X (rlx w D r s)) (h : X D) : ∀ n, n ≤ N → X (rlA w N D n)
  | 0, _ => h
  | n + 1, hn => rlR_keep hX (by omega) (rlA_keep hX h n (by omega)) N (Nat.le_refl _)
theorem bfD_keep {X : (Nat → Nat) → Prop} (hX : ∀ D r s, r < N → s < N → X D → X (rlx w D r s)) (h : X (zU (fun _ => bI) a 0)) : ∀ k, X (bfD w N a k)
  | 0 => h
  | k + 1 => rlA_keep hX (bfD_keep hX h k) N (Nat.le_refl _)
/-- settled clocks -/
def Stl (w : Nat → Nat → Nat) (N : Nat) (T : Nat → Bool) (V : Nat → Nat) (M : Nat) (D : Nat → Nat) : Prop :=
  (∀ t, T t = true → t < N ∧ D t = V t ∧ V t ≤ M) ∧ (∀ r, r < N → T r = false → M ≤ D r) ∧
  (∀ s r, T s = true → r < N → T r = false → w r s ≠ 0 → M ≤ w r s + V s) ∧ (∀ s r, T s = true → T r = true → w r s ≠ 0 → V r ≤ w r s + V s)
theorem stl_rlx {T : Nat → Bool} {V : Nat → Nat} {M : Nat} (hr : r < N) (hs : s < N) (h : Stl w N T V M D) : Stl w N T V M (rlx w D r s) := by
  by_cases c : imp w D r s = true
  · rw [rlx_t c]
    obtain ⟨h1, h2, h3, h4⟩ := h
    obtain ⟨c1, c2⟩ := imp_t c
    have hT : T r = false := by
      cases e : T r with
      | false => rfl
      | true =>
        have a1 := h1 r e
        cases e2 : T s with
        | true => have a2 := h1 s e2; have a3 := h4 s r e2 e c1; omega
        | false => have a2 := h2 s hs e2; omega
    refine ⟨fun t ht => ?_, fun r' hr' hT' => ?_, h3, h4⟩
    · have : t ≠ r := fun e => by rw [e, hT] at ht; exact absurd ht (by decide)
      rw [zU_ne _ _ this]
      exact h1 t ht
    · by_cases e : r' = r
      · rw [e, zU_same]
        cases e2 : T s with
        | true => have a2 := h1 s e2; have a3 := h3 s r e2 hr hT c1; omega
        | false => have a2 := h2 s hs e2; omega
      · rw [zU_ne _ _ e]; exact h2 r' hr' hT'
  · rw [rlx_f (by simpa using c)]; exact h
theorem stl_R {T : Nat → Bool} {V : Nat → Nat} {M : Nat} (hr : r < N) (h : Stl w N T V M D) : ∀ n, n ≤ N → ∀ s, s < n → T s = true → w r s ≠ 0 → rlR w r D n r ≤ w r s + V s
  | 0, _, s, hs, _, _ => absurd hs (Nat.not_lt_zero s)
  | n + 1, hn, s, hs, hT, hw => by
    by_cases e : s = n
    · subst e
      have hk := rlR_keep (w := w) (X := Stl w N T V M) (fun _ _ _ => stl_rlx) hr h s (by omega)
      show rlx w (rlR w r D s) r s r ≤ _
      have e1 := (hk.1 s hT).2.1
      by_cases c : imp w (rlR w r D s) r s = true
      · rw [rlx_t c, zU_same, e1]; exact Nat.le_refl _
      · have c' : imp w (rlR w r D s) r s = false := by simpa using c
        rw [rlx_f c', ← e1]
        exact imp_f c' hw
    · exact Nat.le_trans (rlx_le r) (stl_R hr h n (by omega) s (by omega) hT hw)
theorem stl_A {T : Nat → Bool} {V : Nat → Nat} {M : Nat} (h : Stl w N T V M D) : ∀ n, n ≤ N → ∀ r, r < n → ∀ s, T s = true → w r s ≠ 0 → rlA w N D n r ≤ w r s + V s
  | 0, _, s, hs, _, _, _ => absurd hs (Nat.not_lt_zero s)
  | n + 1, hn, r, hr, s, hT, hw => by
    have hk := rlA_keep (w := w) (X := Stl w N T V M) (fun _ _ _ => stl_rlx) h n (by omega)
    by_cases e : r = n
    · subst e
      exact stl_R (by omega) hk N (Nat.le_refl _) s (hk.1 s hT).1 hT hw
    · exact Nat.le_trans (rlR_le r N) (stl_A h n (by omega) r (by omega) s hT hw)
theorem exMin (f : Nat → Nat) (P : Nat → Prop) : ∀ v m, f m ≤ v → P m → ∃ m, P m ∧ ∀ r, P r → f m ≤ f r
  | 0, m, h, hp => ⟨m, hp, fun r _ => by omega⟩
  | v + 1, m, h, hp => by
    by_cases c : ∃ r, P r ∧ f r < f m
    · obtain ⟨r, hr, hr2⟩ := c
      exact exMin f P v r (by omega) hr
    · refine ⟨m, hp, fun r hr => ?_⟩
      by_cases c2 : f r < f m
      · exact absurd ⟨r, hr, c2⟩ c
      · omega
theorem cnL_full {T : Nat → Bool} : ∀ n, n ≤ cnL T n → ∀ r, r < n → T r = true
  | 0, _, r, hr => absurd hr (Nat.not_lt_zero r)
  | n + 1, h, r, hr => by
    have h1 := cnL_le T n
    have h2 : n + 1 ≤ cnL T n + (if T n = true then 1 else 0) := h
    by_cases c : T n = true
    · rw [if_pos c] at h2
      by_cases e : r = n
      · rw [e]; exact c
      · exact cnL_full n (by omega) r (by omega)
    · rw [if_neg c] at h2; omega
theorem cnL_put {T : Nat → Bool} {m : Nat} (hm : T m = false) : ∀ n, cnL (zU T m true) n = cnL T n + (if m < n then 1 else 0)
  | 0 => rfl
  | n + 1 => by
    show cnL (zU T m true) n + (if zU T m true n = true then 1 else 0) = cnL T n + (if T n = true then 1 else 0) + _
    rw [cnL_put hm n]
    by_cases e : n = m
    · subst e
      rw [zU_same, hm]
      simp
    · rw [zU_ne _ _ e]
      by_cases c : m < n
      · rw [if_pos c, if_pos (by omega : m < n + 1)]; omega
      · rw [if_neg c, if_neg (by omega : ¬ m < n + 1)]; omega
theorem stl_grow {T : Nat → Bool} {V : Nat → Nat} {M : Nat} (h : Stl w N T V M D) (hN : cnL T N < N) : ∃ T' V' M', Stl w N T' V' M' (rlA w N D N) ∧ cnL T' N = cnL T N + 1 := by
  have hk := rlA_keep (w := w) (X := Stl w N T V M) (fun _ _ _ => stl_rlx) h N (Nat.le_refl _)
  have hA := stl_A h N (Nat.le_refl _)
  generalize rlA w N D N = E at hk hA
  have hex : ∃ r, r < N ∧ T r = false := by
    by_cases c : ∃ r, r < N ∧ T r = false
    · exact c
    · exfalso
      have : cnL T N = N := by
        have : ∀ n, n ≤ N → cnL T n = n := by
          intro n
          induction n with
          | zero => intro _; rfl
          | succ n ih =>
            intro hn
            have : T n = true := by
              cases e : T n with
              | true => rfl
              | false => exact absurd ⟨n, by omega, e⟩ c
            rw [cnL_s1 this, ih (by omega)]
        exact this N (Nat.le_refl _)
      omega
  obtain ⟨r0, hr0⟩ := hex
  obtain ⟨m, ⟨hm, hmT⟩, hmin⟩ := exMin E (fun r => r < N ∧ T r = false) (E r0) r0 (Nat.le_refl _) hr0
  obtain ⟨h1, h2, h3, h4⟩ := hk
  refine ⟨zU T m true, zU V m (E m), E m, ⟨fun t ht => ?_, fun r hr hT => ?_, fun s r hs hr hT hw => ?_, fun s r hs hT hw => ?_⟩, ?_⟩
  · by_cases e : t = m
    · subst e; rw [zU_same]; exact ⟨hm, rfl, Nat.le_refl _⟩
    · rw [zU_ne _ _ e] at ht ⊢
      have := h1 t ht
      have := h2 m hm hmT
      exact ⟨by omega, by omega, by omega⟩
  · have e : r ≠ m := fun e => by rw [e, zU_same] at hT; exact absurd hT (by decide)
    rw [zU_ne _ _ e] at hT
    exact hmin r ⟨hr, hT⟩
  · have e : r ≠ m := fun e => by rw [e, zU_same] at hT; exact absurd hT (by decide)
    rw [zU_ne _ _ e] at hT
    by_cases e2 : s = m
    · rw [e2, zU_same]; omega
    · rw [zU_ne _ _ e2] at hs ⊢
      have := hA r hr s hs hw
      have := hmin r ⟨hr, hT⟩
      omega
  · by_cases e : r = m
    · by_cases e2 : s = m
      · rw [e, e2, zU_same]; omega
      · rw [zU_ne _ _ e2] at hs ⊢
        rw [e, zU_same]
        rw [e] at hw
        exact hA m hm s hs hw
    · rw [zU_ne _ _ e] at hT ⊢
      by_cases e2 : s = m
      · rw [e2, zU_same]
        have := h1 r hT
        have := h2 m hm hmT
        omega
      · rw [zU_ne _ _ e2] at hs ⊢
        exact h4 s r hs hT hw
  · rw [cnL_put hmT, if_pos hm]
theorem stl_bf (ha : a < N) : ∀ k, ∃ T V M, Stl w N T V M (bfD w N a k) ∧ (k + 1 ≤ cnL T N ∨ N ≤ cnL T N)
  | 0 => by
    refine ⟨zU (fun _ => false) a true, fun _ => 0, 0, ⟨fun t ht => ?_, fun _ _ _ => Nat.zero_le _, fun _ _ _ _ _ _ => Nat.zero_le _, fun _ _ _ _ _ => Nat.zero_le _⟩, Or.inl ?_⟩
    · have : t = a := by
        by_cases e : t = a
        · exact e
        · rw [zU_ne _ _ e] at ht; exact absurd ht (by decide)
      subst this
      exact ⟨ha, zU_same _ _ _, Nat.le_refl _⟩
    · rw [cnL_put rfl, if_pos ha]; omega
  | k + 1 => by
    obtain ⟨T, V, M, h1, h2⟩ := stl_bf ha k
    by_cases c : cnL T N < N
    · obtain ⟨T', V', M', g1, g2⟩ := stl_grow h1 c
      exact ⟨T', V', M', g1, by omega⟩
    · exact ⟨T, V, M, rlA_keep (X := Stl w N T V M) (fun _ _ _ => stl_rlx) h1 N (Nat.le_refl _), Or.inr (by omega)⟩
/-- six rounds are enough -/
theorem bf_stable (hN : N ≤ 7) (ha : a < N) (hr : r < N) (hs : s < N) : imp w (bfD w N a 6) r s = false := by
  obtain ⟨T, V, M, ⟨h1, h2, h3, h4⟩, h5⟩ := stl_bf (w := w) ha 6
  have hf := cnL_full (T := T) N (by omega)
  cases c : imp w (bfD w N a 6) r s with
  | false => rfl
  | true =>
    have c2 := imp_t c
    have a1 := h1 r (hf r hr)
    have a2 := h1 s (hf s hs)
    have a3 := h4 s r (hf s hs) (hf r hr) c2.1
    omega
theorem bf_fl (hN : N ≤ 7) (ha : a < N) : flA w N (bfD w N a 6) N = false := (flA_i N (fun _ hr _ hs => bf_stable hN ha hr hs)).1
theorem bf_more (hN : N ≤ 7) (ha : a < N) : ∀ k, bfD w N a (6 + k) = bfD w N a 6
  | 0 => rfl
  | k + 1 => by
    show rlA w N (bfD w N a (6 + k)) N = _
    rw [bf_more hN ha k]
    exact (flA_i N (fun _ hr _ hs => bf_stable hN ha hr hs)).2
/-- a round that changes nothing has reached the end -/
theorem bf_end (hN : N ≤ 7) (ha : a < N) {k : Nat} (h : flA w N (bfD w N a k) N = false) : bfD w N a k = bfD w N a 6 := by
  have e : ∀ j, bfD w N a (k + j) = bfD w N a k := by
    intro j
    induction j with
    | zero => rfl
    | succ j ih =>
      show rlA w N (bfD w N a (k + j)) N = _
      rw [ih]
      exact (flA_f N h).1
  by_cases c : k ≤ 6
  · have := e (6 - k)
    rw [show k + (6 - k) = 6 by omega] at this
    exact this.symm
  · have := bf_more (w := w) hN ha (k - 6)
    rw [show 6 + (k - 6) = k by omega] at this
    exact this
end P
