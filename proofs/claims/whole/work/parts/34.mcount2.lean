/-! The Model: pairs that reach, lines of a sort -/
theorem suN_congr {f g : Nat → Nat} : ∀ n, (∀ j, j < n → f j = g j) → suN f n = suN g n
  | 0, _ => rfl
  | n + 1, h => by
    show suN f n + f n = suN g n + g n
    rw [suN_congr n (fun j hj => h j (by omega)), h n (by omega)]
theorem suN_add {f g : Nat → Nat} : ∀ n, suN (fun j => f j + g j) n = suN f n + suN g n
  | 0 => rfl
  | n + 1 => by
    show suN (fun j => f j + g j) n + (f n + g n) = suN f n + f n + (suN g n + g n)
    rw [suN_add n]
    omega
theorem suN_zero : ∀ n, suN (fun _ => 0) n = 0
  | 0 => rfl
  | n + 1 => by
    show suN (fun _ => 0) n + 0 = 0
    rw [suN_zero n]
def b1N (b : Bool) : Nat := if b = true then 1 else 0
theorem cnL_su (p : Nat → Bool) : ∀ n, cnL p n = suN (fun j => b1N (p j)) n
  | 0 => rfl
  | n + 1 => by
    show cnL p n + _ = suN _ n + _
    rw [cnL_su p n]
    rfl
/-- sums over two numbers may be changed about -/
theorem suN_swap (f : Nat → Nat → Nat) (m : Nat) : ∀ n, suN (fun r => suN (f r) m) n = suN (fun s => suN (fun r => f r s) n) m
  | 0 => by
    show 0 = suN (fun _ => 0) m
    rw [suN_zero]
  | n + 1 => by
    show suN (fun r => suN (f r) m) n + suN (f n) m = suN (fun s => suN (fun r => f r s) n + f n s) m
    rw [suN_swap f m n, suN_add]
theorem cnP_su (p : Nat → Nat → Bool) (N : Nat) : ∀ n, cnP p N n = suN (fun r => cnL (p r) N) n
  | 0 => rfl
  | n + 1 => by
    show cnP p N n + _ = suN _ n + _
    rw [cnP_su p N n]
/-- one of all is itself -/
theorem cnL_self {p : Nat → Bool} {r : Nat} (h : p r = true) : ∀ n, cnL p n = cnL (fun s => decide (s ≠ r) && p s) n + (if r < n then 1 else 0)
  | 0 => rfl
  | n + 1 => by
    show cnL p n + (if p n = true then 1 else 0) = cnL (fun s => decide (s ≠ r) && p s) n + (if (decide (n ≠ r) && p n) = true then 1 else 0) + _
    rw [cnL_self h n]
    by_cases e : n = r
    · subst e
      simp [h]
    · have : (r < n) ↔ (r < n + 1) := by omega
      simp only [this, e, ne_eq, not_false_eq_true, decide_true, Bool.true_and]
      omega
section P
variable {w : Nat → Nat → Nat} {N a r s : Nat}
theorem rc_self (hw : wOK w) (hN : N ≤ 7) (hr : r < N) : rcB w N r r = true := by
  unfold rcB
  rw [(hp_bf hw hN hr 6).1]
  rfl
/-- how many pairs reach, counted either way -/
theorem pairs_eq (hw : wOK w) (hN : N ≤ 7) : suN (fun r => cnL (rcB w N r) N - 1) N = cnP (rpB w N) N N := by
  have e1 : ∀ r, r < N → cnL (rcB w N r) N - 1 = suN (fun s => b1N (rpB w N s r)) N := fun r hr => by
    rw [cnL_self (rc_self hw hN hr) N, if_pos hr, Nat.add_sub_cancel, cnL_su]
    refine suN_congr N (fun s hs => ?_)
    unfold rpB
    by_cases e : s = r
    · simp [e]
    · have e' : r ≠ s := fun q => e q.symm
      simp [e, e']
  rw [suN_congr N e1, suN_swap, cnP_su]
  exact suN_congr N (fun s hs => (cnL_su _ N).symm)
end P
section C
variable {d : Nat} {e : Nat × Nat} {h : zH} {Q : zQ} {G : Nat → Value} {c w : Nat → Nat → Nat} {l q : Int32} {S : Nat → Int32} {N a r s : Nat}
theorem nI_sub1 {k : Nat} (h : 0 < k) : nI k - 1 = nI (k - 1) := by
  rw [show k = (k - 1) + 1 by omega, ← nI_1, Nat.add_sub_cancel]
  exact Int32.add_sub_cancel _ _
theorem cM_reachable (hG : h.2 139 = zO 10 G) (hR : mR G) (hm : msA h (nI N) l q S) (hA : mAr h) (hS : StK S) (hq : 2 ≤ q) (hli : 0 ≤ l) (hli2 : l ≤ 99) (hN : N ≤ 7)
    (K : ∀ h' G', h'.2 139 = zO 10 G' → mGf G G' → mAr h' → zFr mA150 h h' → Q (some (.int (nI (cnP (rpB (wtW S l q N) N) N N)))) h') : zW (d + 6) m_Mo_reachable e 0 [.ref 139, zD, zD] [] h Q := by
  have hcw := cw_R (S := S) (l := l) (q := q) hS hq hli hli2 hN
  have hw := wt_ok (S := S) (li := l) (le := q) hS hq hli hli2 hN
  rw [← pairs_eq hw hN] at K
  refine b_Mo_reachable_0 ⟨⟨G, hG⟩, cM_findsCosts hG hR hm hA.1 hA.2.1 hA.2.2.1 hS hq hli hli2 hN (fun h1 hI => ⟨rfl, ?_⟩)⟩
  obtain ⟨⟨G1, hG1, g1⟩, B1, B2, ⟨f, hf, hf2⟩, hfr⟩ := id hI
  have hR1 := g1.R hR
  obtain ⟨st, hst, st0, -⟩ := hm.fr hfr (by decide)
  have loop : ∀ j r h2, r + j = N → (∃ f, h2.2 148 = zI 0 7 f) → (∃ f, h2.2 149 = zI 0 7 f) → zFr (fun z => z = 148 ∨ z = 149) h1 h2 → zW (d + 6) m_Mo_reachable e 8 [.ref 139, .int (nI (suN (fun r => cnL (rcB (wtW S l q N) N r) N - 1) r)), .int (nI r)] [] h2 Q := by
    intro j
    induction j with
    | zero =>
      intro r h2 hj a1 a2 hf1
      have : r = N := by omega
      subst this
      have hG2 : h2.2 139 = zO 10 G1 := by rw [hf1 _ (by decide)]; exact hG1
      refine b_Mo_reachable_8 ⟨G1, hG2, _, hR1.1, 115, st, by rw [hf1 _ (by decide)]; exact hst, zi0, ?_⟩
      rw [show (0 : Int32).toNatClampNeg = 0 from rfl, st0]
      refine ifT (Int32.le_refl _) (K h2 G1 hG2 g1 ⟨?_, ?_, ?_, a1, a2, ?_⟩ ((hfr.sub (B := mA150) (fun z hz => by unfold mA150; omega)).trans (hf1.sub (B := mA150) (fun z hz => by unfold mA150; omega))))
      · exact B1.imp fun _ q => by rw [hf1 _ (by decide)]; exact q
      · exact B2.imp fun _ q => by rw [hf1 _ (by decide)]; exact q
      · exact ⟨f, by rw [hf1 _ (by decide)]; exact hf⟩
      · exact hA.2.2.2.2.2.imp fun _ q => by rw [hf1 _ (by decide), hfr _ (by decide)]; exact q
    | succ j ih =>
      intro r h2 hj a1 a2 hf1
      have hr : r < N := by omega
      have hG2 : h2.2 139 = zO 10 G1 := by rw [hf1 _ (by decide)]; exact hG1
      have hst2 : h2.2 140 = zI 0 115 st := by rw [hf1 _ (by decide)]; exact hst
      refine b_Mo_reachable_8 ⟨G1, hG2, _, hR1.1, 115, st, hst2, zi0, ?_⟩
      rw [show (0 : Int32).toNatClampNeg = 0 from rfl, st0]
      refine ifF (nI_ge (by omega) (by omega)) ⟨⟨G1, hG2⟩, cM_reaches (c := csN S l q) hG2 hR1 ⟨st, hst2, st0⟩ ⟨f, by rw [hf1 _ (by decide)]; exact hf, fun r s hr hs => hf2 r s hr hs (Or.inl hr)⟩ a1 a2 hcw hw hN hr (fun h3 b1 b2 hf3 => ⟨_, rfl, ?_⟩)⟩
      have hpos : 0 < cnL (rcB (wtW S l q N) N r) N := by
        rw [cnL_self (rc_self hw hN hr) N, if_pos hr]; omega
      rw [nI_sub1 hpos, nI_add, nI_1]
      exact ih (r + 1) h3 (by omega) b1 b2 (hf1.trans hf3)
  exact loop N 0 h1 (by omega) (hA.2.2.2.1.imp fun _ q => by rw [hfr _ (by decide)]; exact q) (hA.2.2.2.2.1.imp fun _ q => by rw [hfr _ (by decide)]; exact q) zFr.rf
end C
