/-! The Model: a time along THE CHAIN, whole -/
theorem wt_good {S : Nat → Int32} {l q : Int32} {N r s : Nat} (h : wtW S l q N r s ≠ 0) : r < N ∧ s < N ∧ r ≠ s ∧ (fR S l q r s).1 = 2 := by
  unfold wtW at h
  split at h
  · rename_i c
    refine ⟨c.1, c.2, ?_⟩
    unfold wtN at h
    split at h
    · exact absurd rfl h
    · rename_i c2
      unfold csN at c2
      split at c2
      · rename_i c3
        unfold kdB at c3
        simp only [Bool.and_eq_true, decide_eq_true_eq] at c3
        exact c3
      · exact absurd rfl c2
  · exact absurd rfl h
/-- the i-th clock of THE CHAIN from r to a -/
def wkC (S : Nat → Int32) (l q : Int32) (N a r : Nat) : Nat → Nat := wkN (wtW S l q N) (wD S l q N a) N r
/-- a time after the first i lines of THE CHAIN, and whether it was lost -/
def gT (S : Nat → Int32) (l q : Int32) (N a r : Nat) (v : Int64) : Nat → Int64 × Bool
  | 0 => (v, false)
  | i + 1 => (tkV S (wkC S l q N a r i) (wkC S l q N a r (i + 1)) (fR S l q (wkC S l q N a r i) (wkC S l q N a r (i + 1))).2.1 (gT S l q N a r v i).1, (gT S l q N a r v i).2 || tkO S (wkC S l q N a r i) (wkC S l q N a r (i + 1)) (fR S l q (wkC S l q N a r i) (wkC S l q N a r (i + 1))).2.1 (gT S l q N a r v i).1)
theorem gT_mono {S : Nat → Int32} {l q : Int32} {N a r : Nat} {v : Int64} {i : Nat} (h : (gT S l q N a r v i).2 = true) : ∀ j, (gT S l q N a r v (i + j)).2 = true
  | 0 => h
  | j + 1 => by
    show ((gT S l q N a r v (i + j)).2 || _) = true
    rw [gT_mono h j, Bool.true_or]
/-- how many lines THE CHAIN has -/
def hpN (S : Nat → Int32) (l q : Int32) (N a r : Nat) : Nat := wD S l q N a r % 8
theorem wk_step {S : Nat → Int32} {l q : Int32} {N a r i : Nat} (hS : StK S) (hq : 2 ≤ q) (hli : 0 ≤ l) (hli2 : l ≤ 99) (hN : N ≤ 7) (hr : r < N) (ha : a < N) (hD : wD S l q N a r < bI) (hi : i < hpN S l q N a r) :
    wkC S l q N a r i < N ∧ wkC S l q N a r (i + 1) < N ∧ wkC S l q N a r i ≠ wkC S l q N a r (i + 1) ∧ (fR S l q (wkC S l q N a r i) (wkC S l q N a r (i + 1))).1 = 2 ∧ wkC S l q N a r i ≠ a ∧ wD S l q N a (wkC S l q N a r i) < bI := by
  have hw := wt_ok (S := S) (li := l) (le := q) hS hq hli hli2 hN
  obtain ⟨u1, u2, u3⟩ := wk_ok hw hN ha hr hD i (Nat.le_of_lt hi)
  have une : wkC S l q N a r i ≠ a := fun w => by
    have := (wk_end hw hN ha hr hD (i := i) (Nat.le_of_lt hi)).mp w
    exact absurd this (Nat.ne_of_lt hi)
  obtain ⟨x1, x2, -⟩ := nx_ok hw hN ha u1 une u2
  have := wt_good x2.1
  exact ⟨u1, x1, this.2.2.1, this.2.2.2, une, u2⟩
section C
variable {d : Nat} {e : Nat × Nat} {h : zH} {Q : zQ} {G : Nat → Value} {l q : Int32} {S : Nat → Int32} {N a r s : Nat} {v : Int64}
def mGh (G G' : Nat → Value) : Prop := ∀ k, k < 14 ∨ k = 22 ∨ k = 23 ∨ (24 < k ∧ k ≠ 29 ∧ k ≠ 31 ∧ k ≠ 32) → G' k = G k
theorem cM_goes (hG : h.2 139 = zO 10 G) (hR : mR G) (hm : msA h (nI N) l q S) (hA : mAr h) (hS : StK S) (hq : 2 ≤ q) (hli : 0 ≤ l) (hli2 : l ≤ 99) (hN : N ≤ 7) (hr : r < N) (ha : a < N) (g32 : G 32 = .long v)
    (K0 : wD S l q N a r = bI → ∀ h' G', h'.2 139 = zO 10 G' → mGh G G' → mAr h' → zFr mA150 h h' → Q (some (.int (-2))) h')
    (K1 : wD S l q N a r < bI → ∀ h' G', h'.2 139 = zO 10 G' → mGh G G' → mAr h' → zFr mA150 h h' → ((gT S l q N a r v (hpN S l q N a r)).2 = false → G' 32 = .long (gT S l q N a r v (hpN S l q N a r)).1) → Q (some (.int (if (gT S l q N a r v (hpN S l q N a r)).2 = true then -3 else 0))) h') : zW (d + 7) m_Mo_goes e 0 [.ref 139, .int (nI r), .int (nI a), zD] [] h Q := by
  have hw := wt_ok (S := S) (li := l) (le := q) hS hq hli hli2 hN
  refine b_Mo_goes_0 ⟨⟨G, hG⟩, cM_findsChain hG hR hm hA hS hq hli hli2 hN hr ha (fun c h1 G1 hG1 g1 g29 hA1 hf1 => ⟨rfl, G1, hG1, _, g29, ifT rfl (K0 c h1 G1 hG1 (fun k hk => g1 k (by omega)) hA1 hf1)⟩) (fun c h1 G1 hG1 g1 g29 hA1 hy hf1 => ⟨rfl, G1, hG1, _, g29, ?_⟩)⟩
  have h6 : wD S l q N a r % 8 ≤ 6 := hp_6 hN (hp_bf hw hN ha 6) hr c
  refine ifF (nI_ne0 (by omega) (by omega)) ⟨by decide, G1, hG1, ?_⟩
  rintro h2 rfl
  obtain ⟨y, hy1, hy2⟩ := hy
  have loop : ∀ j i (h3 : zH) (G3 : Nat → Value), i + j = hpN S l q N a r → h3.2 139 = zO 10 G3 → mGh G G3 → mAr h3 → zFr mA150 h h3 → h3.2 150 = zI 0 7 y → G3 29 = .int (nI (hpN S l q N a r + 1)) → G3 31 = .int (b01 (gT S l q N a r v i).2) → G3 32 = .long (gT S l q N a r v i).1 → zW (d + 7) m_Mo_goes e 23 [.ref 139, zD, zD, .int (nI i)] [] h3 Q := by
    intro j
    induction j with
    | zero =>
      intro i h3 G3 hj hG3 g3 hA3 hf3 hy3 t29 t31 t32
      have ei : i = hpN S l q N a r := by omega
      subst ei
      refine b_Mo_goes_23 ⟨G3, hG3, _, t29, ?_⟩
      rw [nI_1]
      have k1 := K1 c h3 G3 hG3 g3 hA3 hf3 (fun _ => t32)
      refine ifT (Int32.le_refl _) ⟨G3, hG3, _, t31, ?_⟩
      cases o : (gT S l q N a r v (hpN S l q N a r)).2 with
      | true => rw [o] at k1; exact ifF (by decide) k1
      | false => rw [o] at k1; exact ifT rfl k1
    | succ j ih =>
      intro i h3 G3 hj hG3 g3 hA3 hf3 hy3 t29 t31 t32
      have hR3 : mR G3 := mR_of hR (fun k hk => g3 k (by omega))
      have r28 : G3 28 = .ref 150 := hR3.2.2.2.2.2.2.2.2.2.2.1
      have hh : hpN S l q N a r ≤ 6 := h6
      refine b_Mo_goes_23 ⟨G3, hG3, _, t29, ?_⟩
      rw [nI_1]
      refine ifF (nI_ge (by omega) (by omega)) ⟨G3, hG3, _, t31, ?_⟩
      cases o : (gT S l q N a r v i).2 with
      | true =>
        have ho : (gT S l q N a r v (hpN S l q N a r)).2 = true := by
          have := gT_mono o (hpN S l q N a r - i)
          rw [show i + (hpN S l q N a r - i) = hpN S l q N a r by omega] at this
          exact this
        have k1 := K1 c h3 G3 hG3 g3 hA3 hf3 (fun w => by rw [ho] at w; exact absurd w (by decide))
        rw [ho] at k1
        rw [o] at t31
        exact ifF (by decide) ⟨G3, hG3, _, t31, ifF (by decide) k1⟩
      | false =>
        obtain ⟨w1, w2, w3, w4, -⟩ := wk_step hS hq hli hli2 hN hr ha c (i := i) (by omega)
        rw [o] at t31
        refine ifT rfl ⟨G3, hG3, _, r28, 7, y, hy3, zIn_nI (by omega) (by decide), G3, hG3, _, r28, 7, y, hy3, zIn_nI (by omega) (by decide), ⟨G3, hG3⟩, ?_⟩
        rw [nI_clamp (by omega), nI_clamp (by omega), hy2 i (by unfold hpN at hj; omega), hy2 (i + 1) (by unfold hpN at hj; omega)]
        refine cM_takes (s := wkC S l q N a r (i + 1)) hG3 hR3 (hm.fr hf3 (by unfold mA150; omega)) hA3 hS hq (show wkC S l q N a r i < 7 by omega) (by omega) w4 t31 t32 (fun h4 G4 hG4 g4 hA4 hf4 u31 u32 => ⟨rfl, ?_⟩)
        refine ih (i + 1) h4 G4 (by omega) hG4 (fun k hk => (g4 k (by omega)).trans (g3 k hk)) hA4 (hf3.trans (hf4.sub (fun z hz => by unfold mA150; omega))) (by rw [hf4 _ (by decide)]; exact hy3) ((g4 29 (by omega)).trans t29) ?_ u32
        rw [u31]
        show _ = Value.int (b01 ((gT S l q N a r v i).2 || _))
        rw [o, Bool.false_or]
        rfl
  have h139 : zFr mA150 h1 (zP h1 139 (zO 10 (zU G1 31 (.int 0)))) := zFr.put (Or.inl rfl)
  have hA2 : mAr (zP h1 139 (zO 10 (zU G1 31 (.int 0)))) := by
    obtain ⟨A1, A2, A3, A4, A5, A6⟩ := hA1
    exact ⟨A1.imp fun _ q => (zP_ne _ _ (by decide)).trans q, A2.imp fun _ q => (zP_ne _ _ (by decide)).trans q, A3.imp fun _ q => (zP_ne _ _ (by decide)).trans q, A4.imp fun _ q => (zP_ne _ _ (by decide)).trans q, A5.imp fun _ q => (zP_ne _ _ (by decide)).trans q, A6.imp fun _ q => (zP_ne _ _ (by decide)).trans q⟩
  exact loop (hpN S l q N a r) 0 _ (zU G1 31 (.int 0)) (Nat.zero_add _) (zP_same _ _ _) (fun k hk => by rw [zU_ne _ _ (by omega)]; exact g1 k (by omega)) hA2 (hf1.trans h139) ((zP_ne _ _ (by decide)).trans hy1) g29 rfl ((g1 32 (by omega)).trans g32)
end C
