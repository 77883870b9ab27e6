/-! The Model: THE LINE -/
def oI (o : Nat → Int32) (B L : Nat → Bool) (c : Nat) (sk : Nat → Int32) : Prop := (∀ b, b < 16 → L b = (B b && decide (o b = 0))) ∧ (∀ j, j < c → ∃ b, b < 16 ∧ sk j = nI b ∧ o b = nI (j + 1)) ∧ ∀ b, b < 16 → o b = 0 ∨ ∃ j, j < c ∧ sk j = nI b ∧ o b = nI (j + 1)
def bfP (p : Nat → Int32) (B : Nat → Bool) : Prop := ∀ b, b < 16 → p b = b01 (B b)
def lnM (h : zH) (G : Nat → Value) (S : Nat → Int32) (l q : Int32) (r s : Nat) : Prop := G 14 = .int (fR S l q r s).1 ∧ mlS G S r s (fR S l q r s).2.1 ∧ ((fR S l q r s).1 ≠ 0 → G 20 = .int (ffL S r s (fR S l q r s).2.1 16).1 ∧ G 21 = .long (ffL S r s (fR S l q r s).2.1 16).2) ∧ G 24 = .int (nI (fR S l q r s).2.2.1) ∧ (∃ p, h.2 145 = zI 1 16 p ∧ bfP p (bothL S r s)) ∧ ∃ o, h.2 146 = zI 0 16 o ∧ oI o (bothL S r s) (fR S l q r s).2.1 (fR S l q r s).2.2.1 (fR S l q r s).2.2.2
theorem zi0 : zIn 0 115 := zIn_nI (show 0 < 115 by decide) (by decide)
theorem zi1 : zIn 1 115 := zIn_nI (show 1 < 115 by decide) (by decide)
theorem zi2 : zIn 2 115 := zIn_nI (show 2 < 115 by decide) (by decide)
theorem mR_of {G G' : Nat → Value} (hR : mR G) (g : ∀ k, k < 5 ∨ k = 22 ∨ k = 23 ∨ (24 < k ∧ k < 29) ∨ 33 < k → G' k = G k) : mR G' := by
  unfold mR at hR ⊢
  rw [g 0 (by omega), g 1 (by omega), g 2 (by omega), g 3 (by omega), g 4 (by omega), g 22 (by omega), g 23 (by omega), g 25 (by omega), g 26 (by omega), g 27 (by omega), g 28 (by omega), g 34 (by omega), g 35 (by omega), g 36 (by omega), g 37 (by omega), g 38 (by omega)]
  exact hR
theorem oI_mp {h : zH} {p o : Nat → Int32} {B L : Nat → Bool} {c : Nat} {sk : Nat → Int32} (hp : h.2 145 = zI 1 16 p) (hpB : bfP p B) (ho : h.2 146 = zI 0 16 o) (hI : oI o B L c sk) : mpA h L := by
  refine ⟨p, o, hp, ho, fun b hb => ⟨?_, ?_⟩⟩
  · rw [hpB b hb]; exact b01_01 _
  · rw [hI.1 b hb, hpB b hb]
    cases B b <;> simp [b01]
theorem oI_strike {o : Nat → Int32} {B L : Nat → Bool} {c f : Nat} {sk : Nat → Int32} (hI : oI o B L c sk) (hc : c < 2 ^ 30) (hf : f < 16) (hL : L f = true) : oI (zU o f (nI (c + 1))) B (rmL L f) (c + 1) (zU sk c (nI f)) := by
  obtain ⟨h1, h2, h3⟩ := hI
  have of0 : o f = 0 := by
    have := h1 f hf
    rw [hL] at this
    have := this.symm
    simp only [Bool.and_eq_true, decide_eq_true_eq] at this
    exact this.2
  refine ⟨fun b hb => ?_, fun j hj => ?_, fun b hb => ?_⟩
  · by_cases e : b = f
    · subst e
      rw [zU_same]
      unfold rmL
      simp [nI_ne0 (n := c + 1) (by omega) (by omega)]
    · rw [zU_ne _ _ e, ← h1 b hb]
      unfold rmL
      simp [e]
  · by_cases e : j = c
    · subst e
      exact ⟨f, hf, zU_same _ _ _, zU_same _ _ _⟩
    · obtain ⟨b, b1, b2, b3⟩ := h2 j (by omega)
      refine ⟨b, b1, by rw [zU_ne _ _ e]; exact b2, ?_⟩
      have : b ≠ f := fun q => by rw [q, of0] at b3; exact nI_ne0 (n := j + 1) (by omega) (by omega) b3.symm
      rw [zU_ne _ _ this]; exact b3
  · by_cases e : b = f
    · subst e
      exact Or.inr ⟨c, by omega, zU_same _ _ _, zU_same _ _ _⟩
    · rw [zU_ne _ _ e]
      rcases h3 b hb with q | ⟨j, j1, j2, j3⟩
      · exact Or.inl q
      · exact Or.inr ⟨j, by omega, by rw [zU_ne _ _ (by omega)]; exact j2, j3⟩
theorem lN_cmp {n : Nat} (hn : n < 2 ^ 31) (q : Int32) : (lg_cmp (lN n) q.toInt64 < 0 ↔ nI n < q) ∧ (lg_cmp (lN n) q.toInt64 = 0 ↔ nI n = q) := by
  rw [lc_lt, lc_eq, Int64.lt_iff_toInt_lt, Int32.lt_iff_toInt_lt, ← Int64.toInt_inj, ← Int32.toInt_inj, lN_toInt hn, nI_toInt hn, Int32.toInt_toInt64]
  exact ⟨Iff.rfl, Iff.rfl⟩
section C
variable {d : Nat} {e : Nat × Nat} {h : zH} {Q : zQ} {n l q : Int32} {S : Nat → Int32} {G : Nat → Value} {r s : Nat}
theorem cM_fits73 (hm : msA h n l q S) (hS : StK S) (hq : 2 ≤ q) (hr : r < 7) (hs : s < 7) (hR : mR G) {p : Nat → Int32} (hpB : bfP p (bothL S r s))
    (K : ∀ h' G' kd L c sk, fR S l q r s = (kd, L, c, sk) → zFr (fun z => z = 139 ∨ z = 145 ∨ z = 146) h h' → h'.2 139 = zO 10 G' → (∀ k, k < 14 ∨ 24 < k ∨ k = 22 ∨ k = 23 → G' k = G k) → G' 14 = .int kd → mlS G' S r s L → (kd ≠ 0 → G' 20 = .int (ffL S r s L 16).1 ∧ G' 21 = .long (ffL S r s L 16).2) → G' 24 = .int (nI c) → h'.2 145 = zI 1 16 p → (∃ o, h'.2 146 = zI 0 16 o ∧ oI o (bothL S r s) L c sk) → Q none h') :
    ∀ k L c sk (h1 : zH) (G1 : Nat → Value) (o : Nat → Int32), fR S l q r s = fitL S r s l q k L c sk → PtL S r s L → cnL L 16 + 1 ≤ k → cnL L 16 + c ≤ 16 → zFr (fun z => z = 139 ∨ z = 145 ∨ z = 146) h h1 → h1.2 139 = zO 10 G1 → (∀ k, k < 14 ∨ 24 < k ∨ k = 22 ∨ k = 23 → G1 k = G k) → G1 14 = .int (-4) → G1 24 = .int (nI c) → h1.2 145 = zI 1 16 p → h1.2 146 = zI 0 16 o → oI o (bothL S r s) L c sk →
      zW (d + 4) m_Mo_fits e 73 [.ref 139, .int (nI r), .int (nI s), zD] [] h1 Q := by
  intro k
  induction k with
  | zero => intro L c sk h1 G1 o _ _ hk; omega
  | succ k ih =>
    intro L c sk h1 G1 o hfit hL hk hc hf1 hG1 go g14 g24 hp ho hI
    have hm1 := hm.fr hf1 (by decide)
    have hR1 : mR G1 := mR_of hR (fun k hk => go k (by omega))
    have hmp := oI_mp hp hpB ho hI
    have hcn := cnL_le L 16
    -- the end
    have fin : ∀ (G2 : Nat → Value) kd, kd ≠ -4 → lkd S r s L l q = kd → kd ≠ -1 → mlS G2 S r s L → (∀ k, k < 14 ∨ 24 < k ∨ k = 22 ∨ k = 23 → G2 k = G k) → (kd ≠ 0 → G2 20 = .int (ffL S r s L 16).1 ∧ G2 21 = .long (ffL S r s L 16).2) → G2 24 = .int (nI c) → zW (d + 4) m_Mo_fits e 73 [.ref 139, .int (nI r), .int (nI s), zD] [] (zP h1 139 (zO 10 (zU G2 14 (.int kd)))) Q := by
      intro G2 kd k4 hkd k1 hml g2 hff g24'
      have hf2 : zFr (fun z => z = 139 ∨ z = 145 ∨ z = 146) h1 (zP h1 139 (zO 10 (zU G2 14 (.int kd)))) := zFr.put (Or.inl rfl)
      refine b_Mo_fits_73 ⟨_, zP_same _ _ _, _, rfl, ifF k4 ?_⟩
      refine K _ _ kd L c sk ?_ (hf1.trans hf2) (zP_same _ _ _) (fun k hk => ?_) rfl hml hff g24' ((zP_ne _ _ (by decide)).trans hp) ⟨o, (zP_ne _ _ (by decide)).trans ho, hI⟩
      · rw [hfit]
        show (if lkd S r s L l q = -1 then _ else _) = _
        rw [hkd, if_neg k1]
      · rw [zU_ne _ _ (by omega)]
        exact g2 k hk
    refine b_Mo_fits_73 ⟨G1, hG1, _, g14, ifT rfl ⟨⟨G1, hG1⟩, cM_sums hG1 hR1 hm1 hmp hr hs (fun G2 hl2 go2 => ?_)⟩⟩
    have goG2 : ∀ k, k < 14 ∨ 24 < k ∨ k = 22 ∨ k = 23 → G2 k = G k := fun k hk => (go2 k (by omega)).trans (go k hk)
    have hR2 : mR G2 := mR_of hR (fun k hk => goG2 k (by omega))
    have f24 : G2 24 = .int (nI c) := (go2 24 (by omega)).trans g24
    obtain ⟨st, hst, st0, st1, st2, st3⟩ := id hm1
    have hst2 : (zP h1 139 (zO 10 G2)).2 140 = zI 0 115 st := (zP_ne _ _ (by decide)).trans hst
    refine ⟨rfl, G2, zP_same _ _ _, _, hl2.1, G2, zP_same _ _ _, _, hR2.1, 115, st, hst2, zi2, ?_⟩
    rw [show (2 : Int32).toNatClampNeg = 2 from rfl, st2]
    refine ifB (fun c1 => ⟨G2, zP_same _ _ _, ?_⟩) (fun c1 => ⟨G2, zP_same _ _ _, _, hl2.2.2.2.1, ?_⟩)
    · rintro h12 rfl
      rw [zP_zP]
      exact fin G2 0 (by decide) (if_pos (Or.inl ((lN_cmp (by omega) q).1.mp c1))) (by decide) hl2 goG2 (fun w => absurd rfl w) f24
    · refine ifB (fun c2 => ⟨G2, zP_same _ _ _, ?_⟩) (fun c2 => ⟨⟨G2, zP_same _ _ _⟩, ?_⟩)
      · rintro h16 rfl
        rw [zP_zP]
        exact fin G2 0 (by decide) (if_pos (Or.inr (lc_eq.mp c2))) (by decide) hl2 goG2 (fun w => absurd rfl w) f24
      · have nc : ¬ (nI (cnL L 16) < q ∨ lxx S r L = 0) := fun w => w.elim (fun w => c1 ((lN_cmp (by omega) q).1.mpr w)) (fun w => c2 (lc_eq.mpr w))
        have h139 : zFr (fun z => z = 139) h1 (zP h1 139 (zO 10 G2)) := zFr.put rfl
        refine cM_findsFarthest (zP_same _ _ _) hR2 (hm1.fr h139 (by decide)) (hmp.fr h139 (by decide) (by decide)) hl2 hr hs (fun G3 g20 g21 go3 => ⟨rfl, ?_⟩)
        rw [zP_zP]
        have goG3 : ∀ k, k < 14 ∨ 24 < k ∨ k = 22 ∨ k = 23 → G3 k = G k := fun k hk => (go3 k (by omega)).trans (goG2 k hk)
        have hR3 : mR G3 := mR_of hR (fun k hk => goG3 k (by omega))
        have hl3 : mlS G3 S r s L := by
          unfold mlS at hl2 ⊢
          rw [go3 15 (by omega), go3 16 (by omega), go3 17 (by omega), go3 18 (by omega), go3 19 (by omega)]
          exact hl2
        have t24 : G3 24 = .int (nI c) := (go3 24 (by omega)).trans f24
        have hst3 : (zP h1 139 (zO 10 G3)).2 140 = zI 0 115 st := (zP_ne _ _ (by decide)).trans hst
        refine b_Mo_fits_126 ⟨G3, zP_same _ _ _, _, g21, G3, zP_same _ _ _, _, hR3.1, 115, st, hst3, zi1, ⟨G3, zP_same _ _ _⟩, cM_den (zP_same _ _ _) hl3 ⟨_, rfl, ?_⟩⟩
        rw [show (1 : Int32).toNatClampNeg = 1 from rfl, st1]
        refine ifB (fun c3 => ⟨G3, zP_same _ _ _, _, hl3.1, G3, zP_same _ _ _, _, hR3.1, 115, st, hst3, zi2, ?_⟩) (fun c3 => ⟨G3, zP_same _ _ _, ?_⟩)
        · rw [show (2 : Int32).toNatClampNeg = 2 from rfl, st2]
          have nf : ¬ (ffL S r s L 16).2 ≤ l.toInt64 * lden S r L := fun w => by
            have a1 := Int64.lt_iff_toInt_lt.mp (lc_gt.mp c3)
            have a2 := Int64.le_iff_toInt_le.mp w
            omega
          refine ifB (fun c4 => ⟨G3, zP_same _ _ _, ?_⟩) (fun c4 => ⟨G3, zP_same _ _ _, _, t24, G3, zP_same _ _ _, ?_⟩)
          · rintro h17 rfl
            rw [zP_zP]
            exact fin G3 1 (by decide) (by unfold lkd; rw [if_neg nc, if_neg nf, if_pos ((lN_cmp (by omega) q).2.mp c4)]) (by decide) hl3 goG3 (fun _ => ⟨g20, g21⟩) t24
          · rintro h21 rfl
            rw [zP_zP]
            have hkd : lkd S r s L l q = -1 := by unfold lkd; rw [if_neg nc, if_neg nf, if_neg (fun w => c4 ((lN_cmp (by omega) q).2.mpr w))]
            have hn : 0 < cnL L 16 := by
              rcases Nat.eq_zero_or_pos (cnL L 16) with w | w
              · exfalso
                apply nc
                left
                rw [w]
                have := Int32.le_iff_toInt_le.mp hq
                exact Int32.lt_iff_toInt_lt.mpr (by have e1 : (2 : Int32).toInt = 2 := by decide
                                                    have e0 : (nI 0).toInt = 0 := by decide
                                                    omega)
              · exact w
            rcases ff_ok hS hr hs hL 16 (Nat.le_refl _) with w | ⟨f, f1, f2, f3⟩
            · omega
            · rw [f3] at g20
              refine ⟨_, zP_same _ _ _, _, hR3.2.2.2.2.2.2.1, _, zP_same _ _ _, _, g20, _, zP_same _ _ _, _, rfl, 16, o, (zP_ne _ _ (by decide)).trans ho, zIn_nI f1 (by decide), ?_⟩
              rintro h30 rfl
              rw [nI_1, nI_clamp (by omega)]
              have hrm := cnL_rm (L := L) (f := f) 16
              rw [f2] at hrm
              have hrm2 : cnL (rmL L f) 16 + 1 = cnL L 16 := by
                rcases hrm with w | w
                · omega
                · have := w.2; simpa using this
              have hfr : zFr (fun z => z = 139 ∨ z = 145 ∨ z = 146) h1 (zP (zP h1 139 (zO 10 (zU G3 24 (.int (nI (c + 1)))))) 146 (zI 0 16 (zU o f (nI (c + 1))))) := (zFr.put (Or.inl rfl)).trans (zFr.put (Or.inr (Or.inr rfl)))
              refine ih (rmL L f) (c + 1) (zU sk c (nI f)) _ (zU G3 24 (.int (nI (c + 1)))) (zU o f (nI (c + 1))) ?_ (PtL_rm hL) (by omega) (by omega) (hf1.trans hfr) ((zP_ne _ _ (by decide)).trans (zP_same _ _ _)) (fun k hk => ?_) ?_ rfl ?_ (zP_same _ _ _) (oI_strike hI (by omega) f1 f2)
              · rw [hfit]
                show (if lkd S r s L l q = -1 then _ else _) = _
                rw [if_pos hkd, f3]
                show fitL S r s l q k (rmL L (nI f).toNatClampNeg) (c + 1) (zU sk c (nI f)) = _
                rw [nI_clamp (by omega)]
              · rw [zU_ne _ _ (by omega)]; exact goG3 k hk
              · show G3 14 = _
                rw [go3 14 (by omega), go2 14 (by omega)]; exact g14
              · exact (zP_ne _ _ (by decide)).trans ((zP_ne _ _ (by decide)).trans hp)
        · rintro h32 rfl
          rw [zP_zP]
          have yf : (ffL S r s L 16).2 ≤ l.toInt64 * lden S r L := by
            have a1 := mt lc_gt.mpr c3
            rw [Int64.lt_iff_toInt_lt] at a1
            exact Int64.le_iff_toInt_le.mpr (by omega)
          exact fin G3 2 (by decide) (by unfold lkd; rw [if_neg nc, if_pos yf]) (by decide) hl3 goG3 (fun _ => ⟨g20, g21⟩) t24
theorem cM_fits (hG : h.2 139 = zO 10 G) (hR : mR G) (hm : msA h n l q S) (hp : ∃ p, h.2 145 = zI 1 16 p) (ho : ∃ o, h.2 146 = zI 0 16 o) (hS : StK S) (hq : 2 ≤ q) (hr : r < 7) (hs : s < 7)
    (K : ∀ h' G', zFr (fun z => z = 139 ∨ z = 145 ∨ z = 146) h h' → h'.2 139 = zO 10 G' → (∀ k, k < 14 ∨ 24 < k ∨ k = 22 ∨ k = 23 → G' k = G k) → lnM h' G' S l q r s → Q none h') : zW (d + 4) m_Mo_fits e 0 [.ref 139, .int (nI r), .int (nI s), zD] [] h Q := by
  refine b_Mo_fits_0 ⟨G, hG, ?_⟩
  rintro h2 rfl
  obtain ⟨p0, hp0⟩ := hp
  obtain ⟨o0, ho0⟩ := ho
  have loop : ∀ k b (h1 : zH) (p o : Nat → Int32), b + k = 16 → zFr (fun z => z = 139 ∨ z = 145 ∨ z = 146) h h1 → h1.2 139 = zO 10 (zU G 24 (.int 0)) → h1.2 145 = zI 1 16 p → h1.2 146 = zI 0 16 o → (∀ j, j < b → p j = b01 (bothL S r s j)) → (∀ j, j < b → o j = 0) →
      zW (d + 4) m_Mo_fits e 7 [.ref 139, .int (nI r), .int (nI s), .int (nI b)] [] h1 Q := by
    intro k
    induction k with
    | zero =>
      intro b h1 p o hk hf1 hG1 hp1 ho1 hp2 ho2
      have : b = 16 := by omega
      subst this
      refine b_Mo_fits_7 (ifT (show nI 16 ≤ nI 16 from Int32.le_refl _) ⟨_, hG1, ?_⟩)
      rintro h3 rfl
      have h139 : zFr (fun z => z = 139 ∨ z = 145 ∨ z = 146) h1 (zP h1 139 (zO 10 (zU (zU G 24 (.int 0)) 14 (.int (-4))))) := zFr.put (Or.inl rfl)
      have hcn := cnL_le (bothL S r s) 16
      refine cM_fits73 hm hS hq hr hs hR (p := p) (fun b hb => hp2 b hb) (fun h' G' kd L c sk e1 e2 e3 e4 e5 e6 e7 e8 e9 e10 => ?_) 17 (bothL S r s) 0 sk0 _ _ o rfl bothL_pt (by omega) (by omega) (hf1.trans h139) (zP_same _ _ _) (fun k hk => ?_) rfl rfl ((zP_ne _ _ (by decide)).trans hp1) ((zP_ne _ _ (by decide)).trans ho1) ⟨fun b hb => ?_, fun j hj => absurd hj (Nat.not_lt_zero j), fun b hb => Or.inl (ho2 b hb)⟩
      · refine K h' G' e2 e3 e4 ?_
        unfold lnM
        rw [e1]
        exact ⟨e5, e6, e7, e8, ⟨p, e9, fun b hb => hp2 b hb⟩, e10⟩
      · rw [zU_ne _ _ (by omega), zU_ne _ _ (by omega)]
      · rw [ho2 b hb]
        simp
    | succ k ih =>
      intro b h1 p o hk hf1 hG1 hp1 ho1 hp2 ho2
      have hb : b < 16 := by omega
      have hm1 := hm.fr hf1 (by decide)
      obtain ⟨st, hst, st0, st1, st2, st3⟩ := id hm1
      have both : bothL S r s b = (decide (S (16 * r + b) ≠ -4) && decide (S (16 * s + b) ≠ -4)) := by unfold bothL; simp [hb]
      have put : ∀ v, v = b01 (bothL S r s b) → zW (d + 4) m_Mo_fits e 7 [.ref 139, .int (nI r), .int (nI s), .int (nI (b + 1))] [] (zP (zP h1 145 (zI 1 16 (zU p b v))) 146 (zI 0 16 (zU o b 0))) Q := fun v hv => by
        have hf2 : zFr (fun z => z = 139 ∨ z = 145 ∨ z = 146) h1 (zP (zP h1 145 (zI 1 16 (zU p b v))) 146 (zI 0 16 (zU o b 0))) := (zFr.put (Or.inr (Or.inl rfl))).trans (zFr.put (Or.inr (Or.inr rfl)))
        refine ih (b + 1) _ (zU p b v) (zU o b 0) (by omega) (hf1.trans hf2) ((zP_ne _ _ (by decide)).trans ((zP_ne _ _ (by decide)).trans hG1)) ((zP_ne _ _ (by decide)).trans (zP_same _ _ _)) (zP_same _ _ _) (fun j hj => ?_) (fun j hj => ?_)
        · by_cases ej : j = b
          · rw [ej, zU_same]; exact hv
          · rw [zU_ne _ _ ej]; exact hp2 j (by omega)
        · by_cases ej : j = b
          · rw [ej, zU_same]
          · rw [zU_ne _ _ ej]; exact ho2 j (by omega)
      have tail : ∀ v, v = b01 (bothL S r s b) → (∃ n12 f13, h1.2 145 = zI 1 n12 f13 ∧ zIn (nI b) n12 ∧ ∀ h14, h14 = zP h1 145 (zI 1 n12 (zU f13 (nI b).toNatClampNeg v)) → (∃ F15, h14.2 139 = zO 10 F15 ∧ ∃ x16, F15 23 = Value.ref x16 ∧ ((∃ n17 f18, h14.2 x16 = zI 0 n17 f18 ∧ zIn (nI b) n17 ∧ ∀ h19, h19 = zP h14 x16 (zI 0 n17 (zU f18 (nI b).toNatClampNeg (0 : Int32))) → (zW (d + 4) m_Mo_fits e 7 [.ref 139, .int (nI r), .int (nI s), .int (nI b + 1)] [] h19 Q))))) := fun v hv => by
        refine ⟨16, p, hp1, zIn_nI hb (by decide), ?_⟩
        rintro h14 rfl
        refine ⟨_, (zP_ne _ _ (by decide)).trans hG1, _, hR.2.2.2.2.2.2.1, 16, o, (zP_ne _ _ (by decide)).trans ho1, zIn_nI hb (by decide), ?_⟩
        rintro h19 rfl
        rw [nI_1, nI_clamp (by omega)]
        exact put v hv
      refine b_Mo_fits_7 (ifF (show ¬ nI 16 ≤ nI b from nI_ge (by omega) (by decide)) ⟨_, hG1, _, hR.2.2.2.2.2.1, _, hG1, _, hR.1, cM_at ⟨_, rfl, 115, st, hst, zIn_nI (by omega) (by decide), ?_⟩⟩)
      rw [nI_clamp (by omega), st3 _ (by omega)]
      refine ifB (fun c => ⟨by decide, tail 0 (by rw [both]; simp [c, b01])⟩) (fun c => ⟨_, hG1, _, hR.1, cM_at ⟨_, rfl, 115, st, hst, zIn_nI (by omega) (by decide), ?_⟩⟩)
      rw [nI_clamp (by omega), st3 _ (by omega)]
      exact ifB (fun c2 => ⟨by decide, tail 0 (by rw [both]; simp [c2, b01])⟩) (fun c2 => ⟨by decide, tail 1 (by rw [both]; simp [c, c2, b01])⟩)
  exact loop 16 0 _ p0 o0 rfl (zFr.put (Or.inl rfl)) (zP_same _ _ _) ((zP_ne _ _ (by decide)).trans hp0) ((zP_ne _ _ (by decide)).trans ho0) (fun j hj => absurd hj (Nat.not_lt_zero j)) (fun j hj => absurd hj (Nat.not_lt_zero j))
theorem cM_costOfLine (hG : h.2 139 = zO 10 G) (hl : lnM h G S l q r s) (hS : StK S) (hq : 2 ≤ q) (hli : 0 ≤ l) (hli2 : l ≤ 99) (hr : r < 7) (hs : s < 7) (hrs : r ≠ s) (K : Q (some (.int (if kdB S l q 2 r s = true then nI (csN S l q r s) else -4))) h) : zW (d + 2) m_Mo_costOfLine e 0 [.ref 139] [] h Q := by
  obtain ⟨l1, l2, l3, -⟩ := hl
  refine b_Mo_costOfLine_0 ⟨G, hG, _, l1, ifB (fun c => ?_) (fun c => ?_)⟩
  · have hk : kdB S l q 2 r s = true := by unfold kdB; simp [hrs, c]
    obtain ⟨e1, e2, -⟩ := cs_eq hS hq hli hli2 hr hs hk
    rw [if_pos hk, ← e1] at K
    exact ⟨G, hG, _, (l3 (by rw [c]; decide)).2, ⟨G, hG⟩, cM_den hG l2 ⟨_, rfl, b_Mo_upBy_0 ⟨e2, _, rfl, K⟩⟩⟩
  · have hk : ¬ kdB S l q 2 r s = true := by unfold kdB; simp [c]
    rw [if_neg hk] at K
    exact K
end C
