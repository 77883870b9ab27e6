/-! Web: lines that are fitted when they are asked for -/
def wLn (h : zH) (S : Nat → Int32) (li le : Int32) (nw : Nat) (tt : Nat → Nat) (j : Nat) : Prop := ∃ F K0 fa, h.2 (19 + 2 * j) = zO 3 F ∧ h.2 (19 + 2 * j + 1) = zI 0 16 K0 ∧ F 0 = .int (nI fa) ∧ fa ≤ nw ∧ F 11 = .ref (19 + 2 * j + 1) ∧ (tt (j / 7) ≤ fa → tt (j % 7) ≤ fa → lnR F K0 S li le (j / 7) (j % 7))
def wOb (h : zH) (nw : Nat) : Prop := (∃ F, h.2 14 = zO 8 F ∧ F 0 = .ref 15 ∧ F 1 = .ref 17 ∧ F 2 = .ref 18 ∧ F 3 = .int (nI nw)) ∧ ∃ f, h.2 17 = zR 3 49 f ∧ ∀ j, j < 49 → f j = some (19 + 2 * j)
def wbA (h : zH) (S : Nat → Int32) (li le : Int32) (nw : Nat) : Prop := wOb h nw ∧ ∃ tt : Nat → Nat, (∃ t0, h.2 18 = zI 0 7 t0 ∧ ∀ r, r < 7 → t0 r = nI (tt r)) ∧ (∀ r, r < 7 → tt r ≤ nw) ∧ ∀ j, j < 49 → wLn h S li le nw tt j
theorem wLn.fr {A : Nat → Prop} {h h' : zH} {S : Nat → Int32} {li le : Int32} {nw : Nat} {tt : Nat → Nat} {j : Nat} (w : wLn h S li le nw tt j) (f : zFr A h h') (h1 : ¬ A (19 + 2 * j)) (h2 : ¬ A (19 + 2 * j + 1)) : wLn h' S li le nw tt j := by
  obtain ⟨F, K0, fa, w1, w2, w3⟩ := w
  exact ⟨F, K0, fa, by rw [f _ h1]; exact w1, by rw [f _ h2]; exact w2, w3⟩
theorem wbA.fr {A : Nat → Prop} {h h' : zH} {S : Nat → Int32} {li le : Int32} {nw : Nat} (w : wbA h S li le nw) (f : zFr A h h') (hA : ∀ z, A z → ¬ (z = 14 ∨ (17 ≤ z ∧ z < 117))) : wbA h' S li le nw := by
  obtain ⟨⟨⟨F, hF, q⟩, g, hg, hg2⟩, tt, ⟨t0, ht, ht2⟩, h3, h4⟩ := w
  refine ⟨⟨⟨F, by rw [f 14 (fun z => hA _ z (by omega))]; exact hF, q⟩, g, by rw [f 17 (fun z => hA _ z (by omega))]; exact hg, hg2⟩, tt, ⟨t0, by rw [f 18 (fun z => hA _ z (by omega))]; exact ht, ht2⟩, h3, fun j hj => (h4 j hj).fr f (fun z => hA _ z (by omega)) (fun z => hA _ z (by omega))⟩
section C
variable {d : Nat} {e : Nat × Nat} {h : zH} {Q : zQ} {n l q : Int32} {S : Nat → Int32} {nw : Nat} {r s : Nat}
theorem ix7 (r s : Nat) : nI r * 7 + nI s = nI (7 * r + s) := by
  rw [show (7 : Int32) = nI 7 from rfl, pk_mul, nI_add, Nat.mul_comm]
theorem cW_lineOf (hb : bkA h 15 n l q S) (hw : wbA h S l q nw) (hS : StK S) (hq : 2 ≤ q) (hnw : nw < 2 ^ 30) (hr : r < 7) (hs : s < 7)
    (K : ∀ h' F K0, wbA h' S l q nw → zFr (fun z => 19 ≤ z ∧ z < 117) h h' → h'.2 (19 + 2 * (7 * r + s)) = zO 3 F → h'.2 (19 + 2 * (7 * r + s) + 1) = zI 0 16 K0 → F 11 = .ref (19 + 2 * (7 * r + s) + 1) → lnR F K0 S l q r s → Q (some (.ref (19 + 2 * (7 * r + s)))) h') : zW (d + 4) m_Web_lineOf e 0 [.ref 14, .int (nI r), .int (nI s), zD] [] h Q := by
  obtain ⟨⟨⟨W, hW, w0, w1, w2, w3⟩, g, hg, hg2⟩, tt, ⟨t0, ht, ht2⟩, h3, h4⟩ := id hw
  have ej : (7 * r + s) / 7 = r ∧ (7 * r + s) % 7 = s := by omega
  obtain ⟨F, K0, fa, hF, hK0, f0, hfa, f11, hfr⟩ := h4 (7 * r + s) (by omega)
  rw [ej.1, ej.2] at hfr
  have hj : 7 * r + s < 49 := by omega
  have htr := h3 r hr
  have hts := h3 s hs
  refine b_Web_lineOf_0 ⟨W, hW, _, w1, 49, g, hg, ?_⟩
  rw [ix7]
  refine ⟨zIn_nI hj (by decide), 19 + 2 * (7 * r + s), by rw [nI_clamp (by omega)]; exact hg2 _ hj, F, hF, _, f0, W, hW, _, w2, 7, t0, ht, zIn_nI hr (by decide), ?_⟩
  rw [nI_clamp (by omega), ht2 r hr]
  have key : zW (d + 3) m_Line_fit h.1 0 [.ref (19 + 2 * (7 * r + s)), .ref 15, .int (nI r), .int (nI s), zD] [] h (fun r14 h15 => r14 = none ∧ (∃ F16, h15.2 14 = zO 8 F16 ∧ ∃ x17, F16 3 = Value.int x17 ∧ ((∃ F18, h15.2 (19 + 2 * (7 * r + s)) = zO 3 F18 ∧ ∀ h19, h19 = zP h15 (19 + 2 * (7 * r + s)) (zO 3 (zU F18 0 (Value.int x17))) → (Q (some (Value.ref (19 + 2 * (7 * r + s)))) h19))))) := by
    refine cL_fit (by omega) hb hS hq hF hK0 f11 hr hs (fun h1 F1 K1 hF1 hK1 hf1 hR1 hF10 hF111 => ⟨rfl, W, by rw [hf1 _ (by omega)]; exact hW, _, w3, F1, hF1, ?_⟩)
    rintro h19 rfl
    have hR2 : lnR (zU F1 0 (.int (nI nw))) K1 S l q r s := by
      obtain ⟨a1, ⟨a2, a3, a4, a5, a6, a7⟩, b3, b4, b5, b6⟩ := hR1
      exact ⟨a1, ⟨a2, a3, a4, a5, a6, a7⟩, b3, b4, b5, b6⟩
    have hfr2 : zFr (fun z => z = 19 + 2 * (7 * r + s) ∨ z = 19 + 2 * (7 * r + s) + 1) h (zP h1 (19 + 2 * (7 * r + s)) (zO 3 (zU F1 0 (.int (nI nw))))) := hf1.trans (zFr.put (Or.inl rfl))
    have hK2 : (zP h1 (19 + 2 * (7 * r + s)) (zO 3 (zU F1 0 (.int (nI nw))))).2 (19 + 2 * (7 * r + s) + 1) = zI 0 16 K1 := (zP_ne _ _ (by omega)).trans hK1
    refine K _ _ K1 ⟨⟨⟨W, by rw [hfr2 _ (by omega)]; exact hW, w0, w1, w2, w3⟩, g, by rw [hfr2 _ (by omega)]; exact hg, hg2⟩, tt, ⟨t0, by rw [hfr2 _ (by omega)]; exact ht, ht2⟩, h3, fun j hj2 => ?_⟩ (hfr2.sub (fun z hz => by omega)) (zP_same _ _ _) hK2 hF111 hR2
    by_cases ej2 : j = 7 * r + s
    · subst ej2
      exact ⟨_, K1, nw, zP_same _ _ _, hK2, rfl, Nat.le_refl _, hF111, fun _ _ => by rw [ej.1, ej.2]; exact hR2⟩
    · exact (h4 j hj2).fr hfr2 (by omega) (by omega)
  refine ifB (fun c => ⟨W, hW, _, w0, ⟨F, hF⟩, key⟩) (fun c => ⟨F, hF, _, f0, W, hW, _, w2, 7, t0, ht, zIn_nI hs (by decide), ?_⟩)
  rw [nI_clamp (by omega), ht2 s hs]
  refine ifB (fun c2 => ?_) (fun c2 => ⟨W, hW, _, w0, ⟨F, hF⟩, key⟩)
  have c1' := mt (nI_ltI (a := fa) (b := tt r) (by omega) (by omega)).mpr c
  have c2' := (nI_leI (a := tt s) (b := fa) (by omega) (by omega)).mp c2
  exact K h F K0 hw zFr.rf hF hK0 f11 (hfr (by omega) (by omega))
theorem cW_touch {S' : Nat → Int32} (hw : wbA h S l q nw) (hr : r < 7) (hnw : nw < 2 ^ 30) (hS' : ∀ r2, r2 < 7 → r2 ≠ r → rowE S S' r2) (K : ∀ h', wbA h' S' l q (nw + 1) → zFr (fun z => z = 14 ∨ z = 18) h h' → Q none h') : zW (d + 1) m_Web_touch e 0 [.ref 14, .int (nI r)] [] h Q := by
  obtain ⟨⟨⟨W, hW, w0, w1, w2, w3⟩, g, hg, hg2⟩, tt, ⟨t0, ht, ht2⟩, h3, h4⟩ := hw
  refine b_Web_touch_0 ⟨W, hW, _, w3, W, hW, ?_⟩
  rintro h4' rfl
  refine ⟨_, zP_same _ _ _, _, w2, _, zP_same _ _ _, _, rfl, 7, t0, (zP_ne _ _ (by decide)).trans ht, zIn_nI hr (by decide), ?_⟩
  rintro h11 rfl
  rw [nI_clamp (by omega), nI_1]
  have hf : zFr (fun z => z = 14 ∨ z = 18) h (zP (zP h 14 (zO 8 (zU W 3 (.int (nI (nw + 1)))))) 18 (zI 0 7 (zU t0 r (nI (nw + 1))))) := (zFr.put (Or.inl rfl)).trans (zFr.put (Or.inr rfl))
  refine K _ ⟨⟨⟨_, (zP_ne _ _ (by decide)).trans (zP_same _ _ _), w0, w1, w2, rfl⟩, g, by rw [hf _ (by decide)]; exact hg, hg2⟩, zU tt r (nw + 1), ⟨_, zP_same _ _ _, fun r2 h2 => ?_⟩, fun r2 h2 => ?_, fun j hj => ?_⟩ hf
  · unfold zU
    split
    · rfl
    · exact ht2 r2 h2
  · unfold zU
    split
    · exact Nat.le_refl _
    · have := h3 r2 h2; omega
  · obtain ⟨F, K0, fa, f1, f2, f3, f4, f5, f6⟩ := h4 j hj
    refine ⟨F, K0, fa, by rw [hf _ (by omega)]; exact f1, by rw [hf _ (by omega)]; exact f2, f3, by omega, f5, fun q1 q2 => ?_⟩
    by_cases e1 : j / 7 = r
    · rw [e1, zU_same] at q1; omega
    · by_cases e2 : j % 7 = r
      · rw [e2, zU_same] at q2; omega
      · rw [zU_ne _ _ e1] at q1
        rw [zU_ne _ _ e2] at q2
        exact lnR_e (hS' _ (by omega) e1) (hS' _ (by omega) e2) (f6 q1 q2)
theorem cW_touchAll {S' : Nat → Int32} {l' q' : Int32} (hw : wbA h S l q nw) (hnw : nw < 2 ^ 30) (K : ∀ h', wbA h' S' l' q' (nw + 1) → zFr (fun z => z = 14 ∨ z = 18) h h' → Q none h') : zW (d + 2) m_Web_touchAll e 0 [.ref 14] [] h Q := by
  obtain ⟨⟨⟨W, hW, w0, w1, w2, w3⟩, g, hg, hg2⟩, tt, ⟨t0, ht, ht2⟩, h3, h4⟩ := hw
  refine b_Web_touchAll_0 ⟨W, hW, _, w3, W, hW, ?_⟩
  rintro h4' rfl
  refine ⟨_, zP_same _ _ _, _, w2, _, zP_same _ _ _, _, rfl, ?_⟩
  refine cJ_fillI (n := 7) (f := t0) ((zP_ne _ _ (by decide)).trans ht) (by decide) (fun f' hf' => ⟨rfl, ?_⟩)
  rw [nI_1] at hf' ⊢
  have hf : zFr (fun z => z = 14 ∨ z = 18) h (zP (zP h 14 (zO 8 (zU W 3 (.int (nI (nw + 1)))))) 18 (zI 0 7 f')) := (zFr.put (Or.inl rfl)).trans (zFr.put (Or.inr rfl))
  refine K _ ⟨⟨⟨_, (zP_ne _ _ (by decide)).trans (zP_same _ _ _), w0, w1, w2, rfl⟩, g, by rw [hf _ (by decide)]; exact hg, hg2⟩, fun _ => nw + 1, ⟨_, zP_same _ _ _, fun r2 h2 => hf' r2 h2⟩, fun r2 h2 => Nat.le_refl _, fun j hj => ?_⟩ hf
  obtain ⟨F, K0, fa, f1, f2, f3, f4, f5, f6⟩ := h4 j hj
  exact ⟨F, K0, fa, by rw [hf _ (by omega)]; exact f1, by rw [hf _ (by omega)]; exact f2, f3, by omega, f5, fun q1 _ => absurd (show nw + 1 ≤ fa from q1) (by omega)⟩
/-- r is not s, and the line from r to s is of a kind -/
def kdB (S : Nat → Int32) (li le k : Int32) (r s : Nat) : Bool := decide (r ≠ s) && decide ((fR S li le r s).1 = k)
def cnP (p : Nat → Nat → Bool) (N : Nat) : Nat → Nat
  | 0 => 0
  | r + 1 => cnP p N r + cnL (p r) N
theorem cW_isKind {k : Int32} (hb : bkA h 15 n l q S) (hw : wbA h S l q nw) (hS : StK S) (hq : 2 ≤ q) (hnw : nw < 2 ^ 30) (hr : r < 7) (hs : s < 7)
    (K1 : kdB S l q k r s = true → ∀ h', wbA h' S l q nw → zFr (fun z => 19 ≤ z ∧ z < 117) h h' → Q (some (.int 1)) h') (K0 : kdB S l q k r s = false → ∀ h', wbA h' S l q nw → zFr (fun z => 19 ≤ z ∧ z < 117) h h' → Q (some (.int 0)) h') : zW (d + 5) m_Web_isKind e 0 [.ref 14, .int (nI r), .int (nI s), .int k] [] h Q := by
  refine b_Web_isKind_0 (ifB (fun c => ⟨by decide, K0 ?_ h hw zFr.rf⟩) (fun c => ⟨hw.1.1.imp fun _ w => w.1, cW_lineOf hb hw hS hq hnw hr hs (fun h' F G hw' hf hF hG f11 hR => ⟨_, rfl, F, hF, _, hR.1, ifB (fun c2 => ⟨by decide, K1 ?_ h' hw' hf⟩) (fun c2 => ⟨by decide, K0 ?_ h' hw' hf⟩)⟩)⟩))
  · have := (nI_eq (by omega) (by omega)).mp c
    unfold kdB; simp [this]
  · have : r ≠ s := fun w => c (by rw [w])
    unfold kdB; simp [this, c2]
  · unfold kdB; simp [c2]
theorem cW_linesOfKind {N : Nat} {k : Int32} (hb : bkA h 15 (nI N) l q S) (hw : wbA h S l q nw) (hS : StK S) (hq : 2 ≤ q) (hnw : nw < 2 ^ 30) (hN : N ≤ 7)
    (K : ∀ h', wbA h' S l q nw → zFr (fun z => 19 ≤ z ∧ z < 117) h h' → Q (some (.int (nI (cnP (kdB S l q k) N N)))) h') : zW (d + 6) m_Web_linesOfKind e 0 [.ref 14, .int k, zD, zD, zD] [] h Q := by
  refine b_Web_linesOfKind_0 ?_
  have inner : ∀ j r s (h1 : zH), s + j = N → r < N → wbA h1 S l q nw → zFr (fun z => 19 ≤ z ∧ z < 117) h h1 →
      (∀ h2, wbA h2 S l q nw → zFr (fun z => 19 ≤ z ∧ z < 117) h h2 → zW (d + 6) m_Web_linesOfKind e 4 [.ref 14, .int k, .int (nI (cnP (kdB S l q k) N (r + 1))), .int (nI (r + 1)), zD] [] h2 Q) →
      zW (d + 6) m_Web_linesOfKind e 18 [.ref 14, .int k, .int (nI (cnP (kdB S l q k) N r + cnL (kdB S l q k r) s)), .int (nI r), .int (nI s)] [] h1 Q := by
    intro j
    induction j with
    | zero =>
      intro r s h1 hj hr hw1 hf1 Kn
      have : s = N := by omega
      subst this
      have hb1 := hb.fr hf1 (by omega) (by omega)
      obtain ⟨⟨⟨W, hW, w0, -⟩, -⟩, -⟩ := id hw1
      obtain ⟨⟨B, hB, b0, -⟩, -⟩ := id hb1
      refine b_Web_linesOfKind_18 ⟨W, hW, _, w0, B, hB, _, b0, ifT (Int32.le_refl _) ?_⟩
      rw [nI_1]
      exact Kn h1 hw1 hf1
    | succ j ih =>
      intro r s h1 hj hr hw1 hf1 Kn
      have hb1 := hb.fr hf1 (by omega) (by omega)
      obtain ⟨⟨⟨W, hW, w0, -⟩, -⟩, -⟩ := id hw1
      obtain ⟨⟨B, hB, b0, -⟩, -⟩ := id hb1
      refine b_Web_linesOfKind_18 ⟨W, hW, _, w0, B, hB, _, b0, ifF (nI_ge (by omega) (by omega)) ⟨⟨W, hW⟩, cW_isKind hb1 hw1 hS hq hnw (by omega) (by omega) (fun c h2 hw2 hf2 => ⟨_, rfl, ifF (by decide) ?_⟩) (fun c h2 hw2 hf2 => ⟨_, rfl, ifT rfl ?_⟩)⟩⟩
      · have := ih r (s + 1) h2 (by omega) hr hw2 (hf1.trans hf2) Kn
        rw [show cnL (kdB S l q k r) (s + 1) = cnL (kdB S l q k r) s + 1 by show _ + (if kdB S l q k r s = true then 1 else 0) = _; rw [c]; rfl] at this
        rw [nI_1, nI_1]
        exact this
      · have := ih r (s + 1) h2 (by omega) hr hw2 (hf1.trans hf2) Kn
        rw [show cnL (kdB S l q k r) (s + 1) = cnL (kdB S l q k r) s by show _ + (if kdB S l q k r s = true then 1 else 0) = _; rw [c]; rfl] at this
        rw [nI_1]
        exact this
  have outer : ∀ j r (h1 : zH), r + j = N → wbA h1 S l q nw → zFr (fun z => 19 ≤ z ∧ z < 117) h h1 → zW (d + 6) m_Web_linesOfKind e 4 [.ref 14, .int k, .int (nI (cnP (kdB S l q k) N r)), .int (nI r), zD] [] h1 Q := by
    intro j
    induction j with
    | zero =>
      intro r h1 hj hw1 hf1
      have : r = N := by omega
      subst this
      have hb1 := hb.fr hf1 (by omega) (by omega)
      obtain ⟨⟨⟨W, hW, w0, -⟩, -⟩, -⟩ := id hw1
      obtain ⟨⟨B, hB, b0, -⟩, -⟩ := id hb1
      exact b_Web_linesOfKind_4 ⟨W, hW, _, w0, B, hB, _, b0, ifT (Int32.le_refl _) (K h1 hw1 hf1)⟩
    | succ j ih =>
      intro r h1 hj hw1 hf1
      have hb1 := hb.fr hf1 (by omega) (by omega)
      obtain ⟨⟨⟨W, hW, w0, -⟩, -⟩, -⟩ := id hw1
      obtain ⟨⟨B, hB, b0, -⟩, -⟩ := id hb1
      exact b_Web_linesOfKind_4 ⟨W, hW, _, w0, B, hB, _, b0, ifF (nI_ge (by omega) (by omega)) (inner N r 0 h1 (by omega) (by omega) hw1 hf1 (fun h2 hw2 hf2 => ih (r + 1) h2 (by omega) hw2 hf2))⟩
  exact outer N 0 h (by omega) hw zFr.rf
end C
section C2
variable {d : Nat} {e : Nat × Nat} {h : zH} {Q : zQ} {l q : Int32} {S : Nat → Int32} {nw N : Nat} {r s : Nat}
theorem cnL_s1 {p : Nat → Bool} {n : Nat} (c : p n = true) : cnL p (n + 1) = cnL p n + 1 := by
  show _ + (if p n = true then 1 else 0) = _
  rw [c]; rfl
theorem cnL_s0 {p : Nat → Bool} {n : Nat} (c : p n = false) : cnL p (n + 1) = cnL p n := by
  show _ + (if p n = true then 1 else 0) = _
  rw [c]; rfl
theorem cW_goodLinesFrom (hb : bkA h 15 (nI N) l q S) (hw : wbA h S l q nw) (hS : StK S) (hq : 2 ≤ q) (hnw : nw < 2 ^ 30) (hN : N ≤ 7) (hr : r < 7)
    (K : ∀ h', wbA h' S l q nw → zFr (fun z => 19 ≤ z ∧ z < 117) h h' → Q (some (.int (nI (cnL (kdB S l q 2 r) N)))) h') : zW (d + 6) m_Web_goodLinesFrom e 0 [.ref 14, .int (nI r), zD, zD] [] h Q := by
  refine b_Web_goodLinesFrom_0 ?_
  have key : ∀ j s (h1 : zH), s + j = N → wbA h1 S l q nw → zFr (fun z => 19 ≤ z ∧ z < 117) h h1 → zW (d + 6) m_Web_goodLinesFrom e 4 [.ref 14, .int (nI r), .int (nI (cnL (kdB S l q 2 r) s)), .int (nI s)] [] h1 Q := by
    intro j
    induction j with
    | zero =>
      intro s h1 hj hw1 hf1
      have : s = N := by omega
      subst this
      have hb1 := hb.fr hf1 (by omega) (by omega)
      obtain ⟨⟨⟨W, hW, w0, -⟩, -⟩, -⟩ := id hw1
      obtain ⟨⟨B, hB, b0, -⟩, -⟩ := id hb1
      exact b_Web_goodLinesFrom_4 ⟨W, hW, _, w0, B, hB, _, b0, ifT (Int32.le_refl _) (K h1 hw1 hf1)⟩
    | succ j ih =>
      intro s h1 hj hw1 hf1
      have hb1 := hb.fr hf1 (by omega) (by omega)
      obtain ⟨⟨⟨W, hW, w0, -⟩, -⟩, -⟩ := id hw1
      obtain ⟨⟨B, hB, b0, -⟩, -⟩ := id hb1
      refine b_Web_goodLinesFrom_4 ⟨W, hW, _, w0, B, hB, _, b0, ifF (nI_ge (by omega) (by omega)) ⟨⟨W, hW⟩, cW_isKind hb1 hw1 hS hq hnw hr (by omega) (fun c h2 hw2 hf2 => ⟨_, rfl, ifF (by decide) ?_⟩) (fun c h2 hw2 hf2 => ⟨_, rfl, ifT rfl ?_⟩)⟩⟩
      · have := ih (s + 1) h2 (by omega) hw2 (hf1.trans hf2)
        rw [cnL_s1 c] at this
        rw [nI_1, nI_1]
        exact this
      · have := ih (s + 1) h2 (by omega) hw2 (hf1.trans hf2)
        rw [cnL_s0 c] at this
        rw [nI_1]
        exact this
  exact key N 0 h (by omega) hw zFr.rf
theorem cW_goodLinesTo (hb : bkA h 15 (nI N) l q S) (hw : wbA h S l q nw) (hS : StK S) (hq : 2 ≤ q) (hnw : nw < 2 ^ 30) (hN : N ≤ 7) (hr : r < 7)
    (K : ∀ h', wbA h' S l q nw → zFr (fun z => 19 ≤ z ∧ z < 117) h h' → Q (some (.int (nI (cnL (fun s => kdB S l q 2 s r) N)))) h') : zW (d + 6) m_Web_goodLinesTo e 0 [.ref 14, .int (nI r), zD, zD] [] h Q := by
  refine b_Web_goodLinesTo_0 ?_
  have key : ∀ j s (h1 : zH), s + j = N → wbA h1 S l q nw → zFr (fun z => 19 ≤ z ∧ z < 117) h h1 → zW (d + 6) m_Web_goodLinesTo e 4 [.ref 14, .int (nI r), .int (nI (cnL (fun s => kdB S l q 2 s r) s)), .int (nI s)] [] h1 Q := by
    intro j
    induction j with
    | zero =>
      intro s h1 hj hw1 hf1
      have : s = N := by omega
      subst this
      have hb1 := hb.fr hf1 (by omega) (by omega)
      obtain ⟨⟨⟨W, hW, w0, -⟩, -⟩, -⟩ := id hw1
      obtain ⟨⟨B, hB, b0, -⟩, -⟩ := id hb1
      exact b_Web_goodLinesTo_4 ⟨W, hW, _, w0, B, hB, _, b0, ifT (Int32.le_refl _) (K h1 hw1 hf1)⟩
    | succ j ih =>
      intro s h1 hj hw1 hf1
      have hb1 := hb.fr hf1 (by omega) (by omega)
      obtain ⟨⟨⟨W, hW, w0, -⟩, -⟩, -⟩ := id hw1
      obtain ⟨⟨B, hB, b0, -⟩, -⟩ := id hb1
      refine b_Web_goodLinesTo_4 ⟨W, hW, _, w0, B, hB, _, b0, ifF (nI_ge (by omega) (by omega)) ⟨⟨W, hW⟩, cW_isKind hb1 hw1 hS hq hnw (by omega) hr (fun c h2 hw2 hf2 => ⟨_, rfl, ifF (by decide) ?_⟩) (fun c h2 hw2 hf2 => ⟨_, rfl, ifT rfl ?_⟩)⟩⟩
      · have := ih (s + 1) h2 (by omega) hw2 (hf1.trans hf2)
        rw [cnL_s1 (p := fun s => kdB S l q 2 s r) c] at this
        rw [nI_1, nI_1]
        exact this
      · have := ih (s + 1) h2 (by omega) hw2 (hf1.trans hf2)
        rw [cnL_s0 (p := fun s => kdB S l q 2 s r) c] at this
        rw [nI_1]
        exact this
  exact key N 0 h (by omega) hw zFr.rf
/-- how many stamps the line from r to s has struck out -/
def skN (S : Nat → Int32) (li le : Int32) (r s : Nat) : Nat := if r = s then 0 else (fR S li le r s).2.2.1
def suN (f : Nat → Nat) : Nat → Nat
  | 0 => 0
  | n + 1 => suN f n + f n
def suP (f : Nat → Nat → Nat) (N : Nat) : Nat → Nat
  | 0 => 0
  | r + 1 => suP f N r + suN (f r) N
theorem cW_allStrikes (hb : bkA h 15 (nI N) l q S) (hw : wbA h S l q nw) (hS : StK S) (hq : 2 ≤ q) (hnw : nw < 2 ^ 30) (hN : N ≤ 7)
    (K : ∀ h', wbA h' S l q nw → zFr (fun z => 19 ≤ z ∧ z < 117) h h' → Q (some (.int (nI (suP (skN S l q) N N)))) h') : zW (d + 5) m_Web_allStrikes e 0 [.ref 14, zD, zD, zD] [] h Q := by
  refine b_Web_allStrikes_0 ?_
  have inner : ∀ j r s (h1 : zH), s + j = N → r < N → wbA h1 S l q nw → zFr (fun z => 19 ≤ z ∧ z < 117) h h1 →
      (∀ h2, wbA h2 S l q nw → zFr (fun z => 19 ≤ z ∧ z < 117) h h2 → zW (d + 5) m_Web_allStrikes e 4 [.ref 14, .int (nI (suP (skN S l q) N (r + 1))), .int (nI (r + 1)), zD] [] h2 Q) →
      zW (d + 5) m_Web_allStrikes e 17 [.ref 14, .int (nI (suP (skN S l q) N r + suN (skN S l q r) s)), .int (nI r), .int (nI s)] [] h1 Q := by
    intro j
    induction j with
    | zero =>
      intro r s h1 hj hr hw1 hf1 Kn
      have : s = N := by omega
      subst this
      have hb1 := hb.fr hf1 (by omega) (by omega)
      obtain ⟨⟨⟨W, hW, w0, -⟩, -⟩, -⟩ := id hw1
      obtain ⟨⟨B, hB, b0, -⟩, -⟩ := id hb1
      refine b_Web_allStrikes_17 ⟨W, hW, _, w0, B, hB, _, b0, ifT (Int32.le_refl _) ?_⟩
      rw [nI_1]
      exact Kn h1 hw1 hf1
    | succ j ih =>
      intro r s h1 hj hr hw1 hf1 Kn
      have hb1 := hb.fr hf1 (by omega) (by omega)
      obtain ⟨⟨⟨W, hW, w0, -⟩, -⟩, -⟩ := id hw1
      obtain ⟨⟨B, hB, b0, -⟩, -⟩ := id hb1
      refine b_Web_allStrikes_17 ⟨W, hW, _, w0, B, hB, _, b0, ifF (nI_ge (by omega) (by omega)) (ifB (fun c => ?_) (fun c => ⟨⟨W, hW⟩, cW_lineOf hb1 hw1 hS hq hnw (by omega) (by omega) (fun h2 F G hw2 hf2 hF hG f11 hR => ⟨_, rfl, F, hF, _, hR.2.2.2.2.1, ?_⟩)⟩))⟩
      · have := ih r (s + 1) h1 (by omega) hr hw1 hf1 Kn
        rw [show suN (skN S l q r) (s + 1) = suN (skN S l q r) s by show _ + skN S l q r s = _; unfold skN; rw [if_pos ((nI_eq (by omega) (by omega)).mp c)]; rfl] at this
        rw [nI_1]
        exact this
      · have := ih r (s + 1) h2 (by omega) hr hw2 (hf1.trans hf2) Kn
        rw [show suN (skN S l q r) (s + 1) = suN (skN S l q r) s + (fR S l q r s).2.2.1 by show _ + skN S l q r s = _; unfold skN; rw [if_neg (fun w => c (by rw [w]))]] at this
        rw [← Nat.add_assoc] at this
        rw [nI_1, nI_add]
        exact this
  have outer : ∀ j r (h1 : zH), r + j = N → wbA h1 S l q nw → zFr (fun z => 19 ≤ z ∧ z < 117) h h1 → zW (d + 5) m_Web_allStrikes e 4 [.ref 14, .int (nI (suP (skN S l q) N r)), .int (nI r), zD] [] h1 Q := by
    intro j
    induction j with
    | zero =>
      intro r h1 hj hw1 hf1
      have : r = N := by omega
      subst this
      have hb1 := hb.fr hf1 (by omega) (by omega)
      obtain ⟨⟨⟨W, hW, w0, -⟩, -⟩, -⟩ := id hw1
      obtain ⟨⟨B, hB, b0, -⟩, -⟩ := id hb1
      exact b_Web_allStrikes_4 ⟨W, hW, _, w0, B, hB, _, b0, ifT (Int32.le_refl _) (K h1 hw1 hf1)⟩
    | succ j ih =>
      intro r h1 hj hw1 hf1
      have hb1 := hb.fr hf1 (by omega) (by omega)
      obtain ⟨⟨⟨W, hW, w0, -⟩, -⟩, -⟩ := id hw1
      obtain ⟨⟨B, hB, b0, -⟩, -⟩ := id hb1
      exact b_Web_allStrikes_4 ⟨W, hW, _, w0, B, hB, _, b0, ifF (nI_ge (by omega) (by omega)) (inner N r 0 h1 (by omega) (by omega) hw1 hf1 (fun h2 hw2 hf2 => ih (r + 1) h2 (by omega) hw2 hf2))⟩
  exact outer N 0 h (by omega) hw zFr.rf
end C2
