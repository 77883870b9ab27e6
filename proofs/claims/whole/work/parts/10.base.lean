/-! pure: small things -/
theorem zP_same (h : zH) (a : Nat) (c : zCell) : (zP h a c).2 a = c := by simp [zP, zU]
theorem zP_ne (h : zH) {a b : Nat} (c : zCell) (hb : b ≠ a) : (zP h a c).2 b = h.2 b := by simp [zP, zU, hb]
theorem zP_1 (h : zH) (a : Nat) (c : zCell) : (zP h a c).1 = h.1 := rfl
theorem zP_zP (h : zH) (a : Nat) (c c' : zCell) : zP (zP h a c) a c' = zP h a c' := by
  unfold zP
  congr 1
  funext q
  unfold zU
  by_cases e : q = a
  · rw [if_pos e, if_pos e]
  · rw [if_neg e, if_neg e]
    show (if q = a then c else h.2 q) = h.2 q
    rw [if_neg e]
theorem zP_self {h : zH} {a : Nat} {c : zCell} (hc : h.2 a = c) : zP h a c = h := by
  unfold zP
  refine Prod.ext rfl ?_
  funext q
  show zU h.2 a c q = h.2 q
  unfold zU
  split
  · rename_i e; rw [e]; exact hc.symm
  · rfl
theorem zU_same {α : Type} (f : Nat → α) (k : Nat) (x : α) : zU f k x k = x := by simp [zU]
theorem zU_ne {α : Type} (f : Nat → α) {k j : Nat} (x : α) (h : j ≠ k) : zU f k x j = f j := by simp [zU, h]
theorem ifT {c : Prop} [Decidable c] {A B : Prop} (h : c) (k : A) : if c then A else B := by rw [if_pos h]; exact k
theorem ifF {c : Prop} [Decidable c] {A B : Prop} (h : ¬ c) (k : B) : if c then A else B := by rw [if_neg h]; exact k
theorem ifB {c : Prop} [Decidable c] {A B : Prop} (h : c → A) (k : ¬ c → B) : if c then A else B := by
  by_cases q : c
  · rw [if_pos q]; exact h q
  · rw [if_neg q]; exact k q
theorem zIn_nI {i n : Nat} (h : i < n) (hn : n < 2 ^ 31) : zIn (nI i) n := ⟨nI_pos (by omega), by rw [nI_clamp (by omega)]; exact h⟩
theorem ix_nI (r b : Nat) : nI r * 16 + nI b = nI (16 * r + b) := by
  rw [show (16 : Int32) = nI 16 from rfl, pk_mul, nI_add, Nat.mul_comm]
theorem zm4 {x : Int32} (h : 0 ≤ x) : ¬ x = -4 := by rintro rfl; exact absurd h (by decide)
/-- the two heaps are alike but for some cells -/
def zFr (A : Nat → Prop) (h h' : zH) : Prop := ∀ a, ¬ A a → h'.2 a = h.2 a
theorem zFr.rf {A : Nat → Prop} {h : zH} : zFr A h h := fun _ _ => rfl
theorem zFr.trans {A : Nat → Prop} {h h1 h2 : zH} (x : zFr A h h1) (y : zFr A h1 h2) : zFr A h h2 := fun a ha => (y a ha).trans (x a ha)
theorem zFr.put {A : Nat → Prop} {h : zH} {a : Nat} {c : zCell} (ha : A a) : zFr A h (zP h a c) := fun b hb => zP_ne h c (fun e => hb (e ▸ ha))
theorem zFr.sub {A B : Nat → Prop} {h h' : zH} (x : zFr A h h') (hs : ∀ a, A a → B a) : zFr B h h' := fun a ha => x a (fun q => ha (hs a q))
/-- a book at a, its stamps behind it -/
def bkA (h : zH) (a : Nat) (n l s : Int32) (S : Nat → Int32) : Prop := (∃ F, h.2 a = zO 0 F ∧ F 0 = .int n ∧ F 1 = .int l ∧ F 2 = .int s ∧ F 3 = .ref (a + 1)) ∧ ∃ S0, h.2 (a + 1) = zI 0 112 S0 ∧ ∀ k, k < 112 → S0 k = S k
theorem bkA.fr {A : Nat → Prop} {h h' : zH} {a : Nat} {n l s : Int32} {S : Nat → Int32} (b : bkA h a n l s S) (f : zFr A h h') (h1 : ¬ A a) (h2 : ¬ A (a + 1)) : bkA h' a n l s S := by
  obtain ⟨⟨F, hF, q⟩, S0, hS, hS0⟩ := b
  exact ⟨⟨F, by rw [f a h1]; exact hF, q⟩, S0, by rw [f _ h2]; exact hS, hS0⟩
theorem bkA.to {h : zH} {a : Nat} {n l s : Int32} {S S' : Nat → Int32} (b : bkA h a n l s S) (hS : ∀ k, k < 112 → S k = S' k) : bkA h a n l s S' := by
  obtain ⟨q, S0, h1, h2⟩ := b
  exact ⟨q, S0, h1, fun k hk => (h2 k hk).trans (hS k hk)⟩
/-- how many a clock heard, of the first k -/
def cnH (S : Nat → Int32) (r : Nat) : Nat → Nat
  | 0 => 0
  | k + 1 => cnH S r k + (if S (16 * r + k) = -4 then 0 else 1)
theorem cnH_le (S : Nat → Int32) (r : Nat) : ∀ k, cnH S r k ≤ k
  | 0 => Nat.le_refl _
  | k + 1 => by
    have := cnH_le S r k
    unfold cnH
    split <;> omega
def cnA (S : Nat → Int32) : Nat → Nat
  | 0 => 0
  | r + 1 => cnA S r + cnH S r 16
theorem cnA_le (S : Nat → Int32) : ∀ r, cnA S r ≤ 16 * r
  | 0 => Nat.le_refl _
  | r + 1 => by
    have := cnA_le S r
    have := cnH_le S r 16
    unfold cnA
    omega
section C
variable {d : Nat} {e : Nat × Nat} {h : zH} {Q : zQ} {a : Nat} {n l s : Int32} {S : Nat → Int32}
theorem cB_hasClock {r : Int32} (hb : bkA h a n l s S) (K : Q (some (.int (if ¬ r < 0 ∧ r < n then 1 else 0))) h) : zW (d + 1) m_Book_hasClock e 0 [.ref a, .int r] [] h Q := by
  obtain ⟨⟨F, hF, f0, f1, f2, f3⟩, S0, hS, hS0⟩ := hb
  refine b_Book_hasClock_0 ?_
  simp only [hF, f0, Sum.inl.injEq, Prod.mk.injEq, true_and, exists_eq_left', Value.int.injEq]
  by_cases c1 : r < 0
  · rw [if_pos c1]; rw [if_neg (fun q => q.1 c1)] at K; exact ⟨by decide, K⟩
  · rw [if_neg c1]
    by_cases c2 : r < n
    · rw [if_neg (Int32.not_le.mpr c2)]; rw [if_pos ⟨c1, c2⟩] at K; exact ⟨by decide, K⟩
    · rw [if_pos (Int32.not_lt.mp c2)]; rw [if_neg (fun q => c2 q.2)] at K; exact ⟨by decide, K⟩
theorem cB_stampAt {r b : Nat} (hb : bkA h a n l s S) (hr : r < 7) (hbb : b < 16) (K : Q (some (.int (S (16 * r + b)))) h) : zW (d + 1) m_Book_stampAt e 0 [.ref a, .int (nI b), .int (nI r)] [] h Q := by
  obtain ⟨⟨F, hF, f0, f1, f2, f3⟩, S0, hS, hS0⟩ := hb
  refine b_Book_stampAt_0 ?_
  simp only [hF, f3, hS, Sum.inl.injEq, Sum.inr.injEq, Prod.mk.injEq, true_and, exists_eq_left', Value.ref.injEq]
  rw [ix_nI]
  refine ⟨112, S0, ⟨rfl, rfl⟩, zIn_nI (by omega) (by decide), ?_⟩
  rw [nI_clamp (by omega), hS0 _ (by omega)]
  exact K
theorem cB_putStamp {r b : Nat} {t : Int32} (hb : bkA h a n l s S) (hr : r < 7) (hbb : b < 16) (K : ∀ h', bkA h' a n l s (zU S (16 * r + b) t) → zFr (fun q => q = a + 1) h h' → Q none h') : zW (d + 1) m_Book_putStamp e 0 [.ref a, .int (nI b), .int (nI r), .int t] [] h Q := by
  obtain ⟨⟨F, hF, f0, f1, f2, f3⟩, S0, hS, hS0⟩ := hb
  refine b_Book_putStamp_0 ?_
  simp only [hF, f3, hS, Sum.inl.injEq, Sum.inr.injEq, Prod.mk.injEq, true_and, exists_eq_left', Value.ref.injEq]
  rw [ix_nI]
  refine ⟨112, S0, ⟨rfl, rfl⟩, zIn_nI (by omega) (by decide), ?_⟩
  rw [nI_clamp (by omega)]
  rintro h5 rfl
  refine K _ ⟨⟨F, by rw [zP_ne _ _ (by omega)]; exact hF, f0, f1, f2, f3⟩, _, zP_same _ _ _, fun k hk => ?_⟩ (zFr.put rfl)
  unfold zU
  split
  · rfl
  · exact hS0 k hk
theorem cB_stampsOf {r : Nat} (hb : bkA h a n l s S) (hr : r < 7) (K : Q (some (.int (nI (cnH S r 16)))) h) : zW (d + 2) m_Book_stampsOf e 0 [.ref a, .int (nI r), zD, zD] [] h Q := by
  refine b_Book_stampsOf_0 ?_
  have loop : ∀ k b, b + k = 16 → zW (d + 2) m_Book_stampsOf e 4 [.ref a, .int (nI r), .int (nI (cnH S r b)), .int (nI b)] [] h Q := by
    intro k
    induction k with
    | zero =>
      intro b hk
      have : b = 16 := by omega
      subst this
      refine b_Book_stampsOf_4 ?_
      exact ifT (show nI 16 ≤ nI 16 from Int32.le_refl _) K
    | succ k ih =>
      intro b hk
      refine b_Book_stampsOf_4 ?_
      refine ifF (show ¬ nI 16 ≤ nI b from nI_ge (by omega) (by decide)) ?_
      refine ⟨hb.1.imp fun _ q => q.1, cB_stampAt hb hr (by omega) ⟨_, rfl, ?_⟩⟩
      have := ih (b + 1) (by omega)
      unfold cnH at this
      rw [nI_1]
      split
      · rename_i c; rw [if_pos c] at this; exact this
      · rename_i c; rw [if_neg c] at this; rw [nI_1]; exact this
  exact loop 16 0 rfl
theorem cB_allStamps {N : Nat} (hb : bkA h a (nI N) l s S) (hN : N ≤ 7) (K : Q (some (.int (nI (cnA S N)))) h) : zW (d + 3) m_Book_allStamps e 0 [.ref a, zD, zD] [] h Q := by
  refine b_Book_allStamps_0 ?_
  have loop : ∀ k r, r + k = N → zW (d + 3) m_Book_allStamps e 4 [.ref a, .int (nI (cnA S r)), .int (nI r)] [] h Q := by
    intro k
    induction k with
    | zero =>
      intro r hk
      have : r = N := by omega
      subst this
      refine b_Book_allStamps_4 ?_
      obtain ⟨⟨F, hF, f0, f1, f2, f3⟩, S0, hS, hS0⟩ := hb
      simp only [hF, f0, Sum.inl.injEq, Prod.mk.injEq, true_and, exists_eq_left', Value.int.injEq]
      rw [if_pos (Int32.le_refl _)]
      exact K
    | succ k ih =>
      intro r hk
      refine b_Book_allStamps_4 ?_
      obtain ⟨⟨F, hF, f0, f1, f2, f3⟩, S0, hS, hS0⟩ := id hb
      simp only [hF, f0, Sum.inl.injEq, Prod.mk.injEq, true_and, exists_eq_left', Value.int.injEq]
      rw [if_neg (nI_ge (by omega) (by omega))]
      refine ⟨⟨_, rfl⟩, cB_stampsOf hb (by omega) ⟨_, rfl, ?_⟩⟩
      have := ih (r + 1) (by omega)
      unfold cnA at this
      rw [nI_add, nI_1]
      exact this
  exact loop N 0 (by omega)
theorem cJ_fillI {p n : Nat} {v : Int32} {f : Nat → Int32} (hp : h.2 p = zI 0 n f) (hn : n < 2 ^ 31) (K : ∀ f', (∀ j, j < n → f' j = v) → Q none (zP h p (zI 0 n f'))) : zW (d + 1) m_JArr_fillI e 0 [.ref p, .int v, zD, zD] [] h Q := by
  refine b_JArr_fillI_0 ⟨n, f, hp, ?_⟩
  have loop : ∀ k i (g : Nat → Int32), i + k = n → (∀ j, j < i → g j = v) → zW (d + 1) m_JArr_fillI e 5 [.ref p, .int v, .int (nI i), .int (nI n)] [] (zP h p (zI 0 n g)) Q := by
    intro k
    induction k with
    | zero =>
      intro i g hk hg
      have : i = n := by omega
      subst this
      exact b_JArr_fillI_5 (ifT (Int32.le_refl _) (K g hg))
    | succ k ih =>
      intro i g hk hg
      refine b_JArr_fillI_5 (ifF (nI_ge (by omega) (by omega)) ?_)
      refine ⟨n, g, zP_same _ _ _, zIn_nI (by omega) (by omega), ?_⟩
      rintro h3 rfl
      rw [nI_clamp (by omega), zP_zP, nI_1]
      refine ih (i + 1) _ (by omega) (fun j hj => ?_)
      unfold zU
      split
      · rfl
      · exact hg j (by omega)
  have := loop n 0 f (by omega) (fun j hj => by omega)
  rw [zP_self hp] at this
  exact this
theorem cJ_fillJ {p n : Nat} {v : Int64} {f : Nat → Int64} (hp : h.2 p = zL n f) (hn : n < 2 ^ 31) (K : ∀ f', (∀ j, j < n → f' j = v) → Q none (zP h p (zL n f'))) : zW (d + 1) m_JArr_fillJ e 0 [.ref p, .long v, zD, zD, zD] [] h Q := by
  refine b_JArr_fillJ_0 ⟨n, f, hp, ?_⟩
  have loop : ∀ k i (g : Nat → Int64), i + k = n → (∀ j, j < i → g j = v) → zW (d + 1) m_JArr_fillJ e 6 [.ref p, .long v, zD, .int (nI i), .int (nI n)] [] (zP h p (zL n g)) Q := by
    intro k
    induction k with
    | zero =>
      intro i g hk hg
      have : i = n := by omega
      subst this
      exact b_JArr_fillJ_6 (ifT (Int32.le_refl _) (K g hg))
    | succ k ih =>
      intro i g hk hg
      refine b_JArr_fillJ_6 (ifF (nI_ge (by omega) (by omega)) ?_)
      refine ⟨n, g, zP_same _ _ _, zIn_nI (by omega) (by omega), ?_⟩
      rintro h3 rfl
      rw [nI_clamp (by omega), zP_zP, nI_1]
      refine ih (i + 1) _ (by omega) (fun j hj => ?_)
      unfold zU
      split
      · rfl
      · exact hg j (by omega)
  have := loop n 0 f (by omega) (fun j hj => by omega)
  rw [zP_self hp] at this
  exact this
theorem cB_startWith {N : Int32} (hb : bkA h a n l s S) (K : ∀ h', bkA h' a N l s (fun _ => -4) → zFr (fun q => q = a ∨ q = a + 1) h h' → Q none h') : zW (d + 2) m_Book_startWith e 0 [.ref a, .int N] [] h Q := by
  obtain ⟨⟨F, hF, f0, f1, f2, f3⟩, S0, hS, hS0⟩ := hb
  refine b_Book_startWith_0 ⟨F, hF, ?_⟩
  rintro h2 rfl
  refine ⟨_, zP_same _ _ _, a + 1, (zU_ne _ _ (by decide)).trans f3, ?_⟩
  refine cJ_fillI (f := S0) (n := 112) (by rw [zP_ne _ _ (by omega)]; exact hS) (by decide) (fun f' hf => ⟨rfl, ?_⟩)
  refine K _ ⟨⟨_, (zP_ne _ _ (by omega)).trans (zP_same _ _ _), zU_same _ _ _, (zU_ne _ _ (by decide)).trans f1, (zU_ne _ _ (by decide)).trans f2, (zU_ne _ _ (by decide)).trans f3⟩, f', zP_same _ _ _, hf⟩ ?_
  exact (zFr.put (Or.inl rfl)).trans (zFr.put (Or.inr rfl))
theorem cB_copyFrom {a2 : Nat} {n2 l2 s2 : Int32} {S2 : Nat → Int32} (hb : bkA h a n l s S) (hb2 : bkA h a2 n2 l2 s2 S2) (hne : a2 ≠ a ∧ a2 ≠ a + 1 ∧ a2 + 1 ≠ a) (K : ∀ h', bkA h' a n2 l2 s2 S2 → zFr (fun q => q = a ∨ q = a + 1) h h' → Q none h') : zW (d + 1) m_Book_copyFrom e 0 [.ref a, .ref a2] [] h Q := by
  obtain ⟨⟨F, hF, f0, f1, f2, f3⟩, S0, hS, hS0⟩ := hb
  obtain ⟨⟨G, hG, g0, g1, g2, g3⟩, T0, hT, hT0⟩ := hb2
  obtain ⟨q1, q2, q3⟩ := hne
  refine b_Book_copyFrom_0 ⟨G, hG, _, g0, F, hF, ?_⟩
  rintro h4 rfl
  refine ⟨G, (zP_ne _ _ q1).trans hG, _, g1, _, zP_same _ _ _, ?_⟩
  rintro h8 rfl
  rw [zP_zP]
  refine ⟨G, (zP_ne _ _ q1).trans hG, _, g2, _, zP_same _ _ _, ?_⟩
  rintro h12 rfl
  rw [zP_zP]
  have e3 : ∀ x y z : Value, zU (zU (zU F 0 x) 1 y) 2 z 3 = F 3 := fun x y z => rfl
  have hS' : ∀ c, (zP h a c).2 (a + 1) = zI 0 112 S0 := fun c => (zP_ne h c (by omega)).trans hS
  have hT' : ∀ c, (zP h a c).2 (a2 + 1) = zI 0 112 T0 := fun c => (zP_ne h c q3).trans hT
  refine ⟨G, (zP_ne _ _ q1).trans hG, _, g3, _, zP_same _ _ _, _, (e3 _ _ _).trans f3, _, zP_same _ _ _, _, (e3 _ _ _).trans f3, 112, S0, hS' _, fun q => q1 (Nat.succ.inj q), 112, T0, 112, S0, hT' _, hS' _, by decide, ?_⟩
  rintro h25 rfl
  refine K _ ⟨⟨_, (zP_ne _ _ (by omega)).trans (zP_same _ _ _), rfl, rfl, rfl, f3⟩, _, zP_same _ _ _, fun k hk => ?_⟩ ((zFr.put (Or.inl rfl)).trans (zFr.put (Or.inr rfl)))
  have : zCpy T0 S0 0 0 112 k = T0 k := by
    unfold zCpy
    rw [if_pos (by omega)]
    congr 1
    omega
  exact this.trans (hT0 k hk)
end C
/-- some clock of the first n heard the beacon -/
def hdB (S : Nat → Int32) (b : Nat) : Nat → Bool
  | 0 => false
  | r + 1 => hdB S b r || decide (S (16 * r + b) ≠ -4)
theorem hdB_true {S : Nat → Int32} {b : Nat} : ∀ {n r : Nat}, r < n → S (16 * r + b) ≠ -4 → hdB S b n = true
  | n + 1, r, hr, hS => by
    unfold hdB
    by_cases e : r = n
    · subst e; simp [hS]
    · rw [hdB_true (by omega) hS]; rfl
/-- how many of the first k beacons nobody heard -/
def cnU (S : Nat → Int32) (n : Nat) : Nat → Nat
  | 0 => 0
  | b + 1 => cnU S n b + (if hdB S b n = true then 0 else 1)
theorem cnU_le (S : Nat → Int32) (n : Nat) : ∀ k, cnU S n k ≤ k
  | 0 => Nat.le_refl _
  | k + 1 => by
    have := cnU_le S n k
    unfold cnU
    split <;> omega
/-- a stamp may be moved by c -/
def mvO (x c : Int32) : Prop := x = -4 ∨ (¬ x + c < 0 ∧ x + c ≤ 9999)
def mvA (S : Nat → Int32) (r : Nat) (c : Int32) (k : Nat) : Prop := ∀ b, b < k → mvO (S (16 * r + b)) c
/-- the stamps of a clock, the first k of them moved -/
def mvS (S : Nat → Int32) (r : Nat) (c : Int32) (k : Nat) : Nat → Int32 := fun j => if 16 * r ≤ j ∧ j < 16 * r + k ∧ S j ≠ -4 then S j + c else S j
section C
variable {d : Nat} {e : Nat × Nat} {h : zH} {Q : zQ} {a : Nat} {n l s : Int32} {S : Nat → Int32}
theorem cB_isHeard {N b : Nat} (hb : bkA h a (nI N) l s S) (hN : N ≤ 7) (hbb : b < 16) (K : Q (some (.int (if hdB S b N = true then 1 else 0))) h) : zW (d + 2) m_Book_isHeard e 0 [.ref a, .int (nI b), zD] [] h Q := by
  refine b_Book_isHeard_0 ?_
  have loop : ∀ k r, r + k = N → hdB S b r = false → zW (d + 2) m_Book_isHeard e 2 [.ref a, .int (nI b), .int (nI r)] [] h Q := by
    intro k
    induction k with
    | zero =>
      intro r hk hr
      have : r = N := by omega
      subst this
      obtain ⟨⟨F, hF, f0, -⟩, -⟩ := id hb
      refine b_Book_isHeard_2 ⟨F, hF, _, f0, ifT (Int32.le_refl _) ⟨by decide, ?_⟩⟩
      rw [if_neg (by rw [hr]; decide)] at K
      exact K
    | succ k ih =>
      intro r hk hr
      obtain ⟨⟨F, hF, f0, -⟩, -⟩ := id hb
      refine b_Book_isHeard_2 ⟨F, hF, _, f0, ifF (nI_ge (by omega) (by omega)) ⟨⟨F, hF⟩, cB_stampAt hb (by omega) hbb ⟨_, rfl, ifB (fun c => ?_) (fun c => ⟨by decide, ?_⟩)⟩⟩⟩
      · rw [nI_1]
        refine ih (r + 1) (by omega) ?_
        unfold hdB
        rw [hr, decide_eq_false (fun q => q c)]
        rfl
      · rw [if_pos (hdB_true (by omega) c)] at K
        exact K
  exact loop N 0 (by omega) rfl
theorem cB_unheard {N : Nat} (hb : bkA h a (nI N) l s S) (hN : N ≤ 7) (K : Q (some (.int (nI (cnU S N 16)))) h) : zW (d + 3) m_Book_unheardBeacons e 0 [.ref a, zD, zD] [] h Q := by
  refine b_Book_unheardBeacons_0 ?_
  have loop : ∀ k b, b + k = 16 → zW (d + 3) m_Book_unheardBeacons e 4 [.ref a, .int (nI (cnU S N b)), .int (nI b)] [] h Q := by
    intro k
    induction k with
    | zero =>
      intro b hk
      have : b = 16 := by omega
      subst this
      exact b_Book_unheardBeacons_4 (ifT (show nI 16 ≤ nI 16 from Int32.le_refl _) K)
    | succ k ih =>
      intro b hk
      have := ih (b + 1) (by omega)
      unfold cnU at this
      refine b_Book_unheardBeacons_4 (ifF (show ¬ nI 16 ≤ nI b from nI_ge (by omega) (by decide)) ⟨hb.1.imp fun _ q => q.1, cB_isHeard hb hN (by omega) ⟨_, rfl, ?_⟩⟩)
      simp only [nI_1]
      by_cases c : hdB S b N = true
      · rw [if_pos c, Nat.add_zero] at this
        rw [if_pos c]
        exact ifF (by decide) this
      · rw [if_neg c] at this ⊢
        exact ifT rfl this
  exact loop 16 0 rfl
theorem cB_canMove {r : Nat} {c : Int32} (hb : bkA h a n l s S) (hr : r < 7) (K1 : mvA S r c 16 → Q (some (.int 1)) h) (K0 : ¬ mvA S r c 16 → Q (some (.int 0)) h) : zW (d + 2) m_Book_canMove e 0 [.ref a, .int (nI r), .int c, zD, zD] [] h Q := by
  refine b_Book_canMove_0 ?_
  have loop : ∀ k b, b + k = 16 → mvA S r c b → zW (d + 2) m_Book_canMove e 2 [.ref a, .int (nI r), .int c, .int (nI b), zD] [] h Q := by
    intro k
    induction k with
    | zero =>
      intro b hk hm
      have : b = 16 := by omega
      subst this
      exact b_Book_canMove_2 (ifT (show nI 16 ≤ nI 16 from Int32.le_refl _) ⟨by decide, K1 hm⟩)
    | succ k ih =>
      intro b hk hm
      have next : mvO (S (16 * r + b)) c → zW (d + 2) m_Book_canMove e 2 [.ref a, .int (nI r), .int c, .int (nI b + 1), zD] [] h Q := fun q => by
        rw [nI_1]
        refine ih (b + 1) (by omega) (fun j hj => ?_)
        by_cases e : j = b
        · subst e; exact q
        · exact hm j (by omega)
      refine b_Book_canMove_2 (ifF (show ¬ nI 16 ≤ nI b from nI_ge (by omega) (by decide)) ⟨hb.1.imp fun _ q => q.1, cB_stampAt hb hr (by omega) ⟨_, rfl, ifB (fun c1 => next (Or.inl c1)) (fun c1 => ifB (fun c2 => ⟨by decide, K0 (fun q => ?_)⟩) (fun c2 => ifB (fun c3 => next (Or.inr ⟨c2, c3⟩)) (fun c3 => ⟨by decide, K0 (fun q => ?_)⟩)))⟩⟩)
      · rcases q b (by omega) with q | q
        · exact c1 q
        · exact q.1 c2
      · rcases q b (by omega) with q | q
        · exact c1 q
        · exact c3 q.2
  exact loop 16 0 rfl (fun b hb => by omega)
theorem cB_moveStamps {r : Nat} {c : Int32} (hb : bkA h a n l s S) (hr : r < 7) (K : ∀ h', bkA h' a n l s (mvS S r c 16) → zFr (fun q => q = a + 1) h h' → Q (some (.int (nI (cnH S r 16)))) h') : zW (d + 2) m_Book_moveStamps e 0 [.ref a, .int (nI r), .int c, zD, zD, zD] [] h Q := by
  refine b_Book_moveStamps_0 ?_
  have loop : ∀ k b (h1 : zH), b + k = 16 → bkA h1 a n l s (mvS S r c b) → zFr (fun q => q = a + 1) h h1 → zW (d + 2) m_Book_moveStamps e 5 [.ref a, .int (nI r), .int c, .int (nI (cnH S r b)), .int (nI b), zD] [] h1 Q := by
    intro k
    induction k with
    | zero =>
      intro b h1 hk hb1 hf
      have : b = 16 := by omega
      subst this
      exact b_Book_moveStamps_5 (ifT (show nI 16 ≤ nI 16 from Int32.le_refl _) (K h1 hb1 hf))
    | succ k ih =>
      intro b h1 hk hb1 hf
      have e0 : mvS S r c b (16 * r + b) = S (16 * r + b) := by
        unfold mvS; rw [if_neg (by omega)]
      have ecn : cnH S r (b + 1) = cnH S r b + (if S (16 * r + b) = -4 then 0 else 1) := rfl
      refine b_Book_moveStamps_5 (ifF (show ¬ nI 16 ≤ nI b from nI_ge (by omega) (by decide)) ⟨hb1.1.imp fun _ q => q.1, cB_stampAt hb1 hr (by omega) ⟨_, rfl, ifB (fun c1 => ?_) (fun c1 => ⟨hb1.1.imp fun _ q => q.1, cB_putStamp hb1 hr (by omega) (fun h2 hb2 hf2 => ⟨rfl, ?_⟩)⟩)⟩⟩)
      · rw [e0] at c1
        rw [if_pos c1] at ecn
        have := ih (b + 1) h1 (by omega) (hb1.to (fun j hj => ?_)) hf
        · rw [nI_1]; rw [ecn] at this; exact this
        · unfold mvS
          by_cases hj2 : j = 16 * r + b
          · subst hj2; rw [if_neg (by omega), if_neg (fun q => q.2.2 c1)]
          · by_cases hj3 : 16 * r ≤ j ∧ j < 16 * r + b ∧ S j ≠ -4
            · rw [if_pos hj3, if_pos ⟨hj3.1, by omega, hj3.2.2⟩]
            · rw [if_neg hj3, if_neg (fun q => hj3 ⟨q.1, by omega, q.2.2⟩)]
      · rw [e0] at c1 hb2
        rw [if_neg c1] at ecn
        have := ih (b + 1) h2 (by omega) (hb2.to (fun j hj => ?_)) (hf.trans hf2)
        · rw [nI_1, nI_1]; rw [ecn] at this; exact this
        · unfold zU mvS
          by_cases hj2 : j = 16 * r + b
          · subst hj2; rw [if_pos rfl, if_pos ⟨by omega, by omega, c1⟩]
          · rw [if_neg hj2]
            by_cases hj3 : 16 * r ≤ j ∧ j < 16 * r + b ∧ S j ≠ -4
            · rw [if_pos hj3, if_pos ⟨hj3.1, by omega, hj3.2.2⟩]
            · rw [if_neg hj3, if_neg (fun q => hj3 ⟨q.1, by omega, q.2.2⟩)]
  refine loop 16 0 h rfl (hb.to (fun j hj => ?_)) zFr.rf
  unfold mvS
  rw [if_neg (by omega)]
end C
