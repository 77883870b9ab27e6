/-! The class: the whole text -/
section C
variable {d : Nat} {e : Nat × Nat} {h : zH} {Q : zQ} {F : Nat → Value} {T : Nat → Int32} {n p : Nat} {x y : rdS}
theorem cR_takeLine (hG : rdG h x F) (hI : rdI x) (htr : trT F T n x.1) (ht : tpA h n T) (hn : n ≤ 300) (hp : x.1 ≤ n)
    (K : ∀ h', rdO h' (lnP T n x) → zFr rdA h h' → Q (some (.int (rdV (lnP T n x)))) h') : zW (d + 5) m_Text_takeLine e 0 [.ref 9] [] h Q := by
  have hF := hG.1
  have f0 := hG.2.1
  refine b_Text_takeLine_0 ⟨⟨F, hF⟩, cR_isName (by decide) hF f0 htr ht hn hp ⟨_, rfl, ifB (fun c => ?_) (fun c => ?_)⟩⟩
  · have c2 := b01_0 c
    refine ⟨⟨F, hF⟩, cR_isName (by decide) hF f0 htr ht hn hp ⟨_, rfl, ifB (fun c => ?_) (fun c => ?_)⟩⟩
    · have c3 := b01_0 c
      refine ⟨⟨F, hF⟩, cR_isName (by decide) hF f0 htr ht hn hp ⟨_, rfl, ifB (fun c => ?_) (fun c => ?_)⟩⟩
      · have c4 := b01_0 c
        have e1 : lnP T n x = .inl (2, tkF T n x.1) := by unfold lnP; rw [c2, c3, c4]; rfl
        rw [e1] at K
        exact ⟨⟨F, hF⟩, cR_refuse hF htr.2.1 ⟨_, rfl, by decide, K _ (rdX.of hG.2.2.2.2.2.2 f0 hG.2.2.1 rfl rfl (Or.inr (Or.inl rfl))) fr9⟩⟩
      · have c4 := b01_n c
        have e1 : lnP T n x = lsP T n x := by unfold lnP; rw [c2, c3, c4]; rfl
        rw [e1] at K
        exact ⟨⟨F, hF⟩, cR_takeLeast hG htr (nmB_k c4) ht hn hp (fun h' ho hf => ⟨_, rfl, rdV_01 _, K h' ho hf⟩)⟩
    · have c3 := b01_n c
      have e1 : lnP T n x = lmP T n x := by unfold lnP; rw [c2, c3]; rfl
      rw [e1] at K
      exact ⟨⟨F, hF⟩, cR_takeLimit hG htr (nmB_k c3) ht hn hp (fun h' ho hf => ⟨_, rfl, rdV_01 _, K h' ho hf⟩)⟩
  · have c2 := b01_n c
    have e1 : lnP T n x = heP T n x := by unfold lnP; rw [c2]; rfl
    rw [e1] at K
    exact ⟨⟨F, hF⟩, cR_takeHear hG hI htr (nmB_k c2) ht hn hp (fun h' ho hf => ⟨_, rfl, rdV_01 _, K h' ho hf⟩)⟩
theorem cR_takeHead {l q : Int32} (hG : rdG h (0, (1, l, q), fun _ => -4, false, false) F) (f8 : F 8 = .int (nI 0)) (ht : tpA h n T) (hn : n ≤ 300)
    (K : ∀ h', rdO h' (hdP T n l q) → zFr rdA h h' → Q (some (.int (rdV (hdP T n l q)))) h') : zW (d + 4) m_Text_takeHead e 0 [.ref 9] [] h Q := by
  obtain ⟨hF, f0, f1, f2, f4, f5, hb⟩ := hG
  have hp : 0 ≤ n := Nat.zero_le _
  have he := tkE_le (T := T) hp
  have tp : ∀ z, tpA (zP h 9 z) n T := fun z => ht.fr (zFr.put (A := fun z => z = 9) rfl) (by decide) (by decide)
  refine b_Text_takeHead_0 ⟨⟨F, hF⟩, cR_nextToken hF f0 f8 ht hn hp (fun hx F1 htr hr => ⟨_, rfl, ifF (by decide) ⟨⟨_, zP_same _ _ _⟩, cR_isName (by decide) (zP_same _ _ _) ((hr 0 (by omega)).trans f0) htr (tp _) hn hp ⟨_, rfl, ifB (fun c => ?_) (fun c => ?_)⟩⟩⟩) (fun hx F1 htr hr h2 h3 => ⟨_, rfl, ifT rfl ⟨by decide, ?_⟩⟩)⟩
  · have c1 := b01_0 c
    have e1 : hdP T n l q = .inl (2, tkF T n 0) := by unfold hdP; rw [hx, c1]; rfl
    rw [e1] at K
    refine ⟨⟨_, zP_same _ _ _⟩, cR_refuse (zP_same _ _ _) htr.2.1 ⟨_, rfl, by decide, ?_⟩⟩
    rw [zP_zP]
    exact K _ (rdX.of hb ((hr 0 (by omega)).trans f0) ((hr 1 (by omega)).trans f1) rfl rfl (Or.inr (Or.inl rfl))) fr9
  · have c1 := b01_n c
    refine ⟨⟨_, zP_same _ _ _⟩, cR_takeNumber (zP_same _ _ _) ((hr 0 (by omega)).trans f0) (htr.2.2 (nmB_k c1)) (tp _) hn he.2 (fun v p1 e1 q1 q2 F2 hr2 h7 h8 h9 => ⟨_, rfl, ifF (by decide) ?_⟩) (fun c w e1 F2 h0 h1 h2 h3 => ⟨_, rfl, ifT rfl ⟨by decide, ?_⟩⟩)⟩
    · rw [zP_zP]
      have e2 : hdP T n l q = sgO T n p1 (0, (v, l, q), fun _ => -4, false, false) := by unfold hdP; rw [hx, c1, e1]; rfl
      rw [e2] at K
      obtain ⟨B, hB, b0, b1, b2, s0, s1, s2⟩ := (hb.fr (zFr.put (A := fun z => z = 9) (h := h) (c := zO 6 F2) rfl) (by decide) (by decide)).set
      have g : ∀ k, k < 6 → F2 k = F k := fun k hk => (hr2 k hk).trans (hr k (by omega))
      refine ⟨_, zP_same _ _ _, _, (g 1 (by omega)).trans f1, _, zP_same _ _ _, _, h9, B, hB, ?_⟩
      rintro h13 rfl
      have hF1 : (zP (zP h 9 (zO 6 F2)) 12 (zO 0 (zU B 0 (.int v)))).2 9 = zO 6 F2 := (zP_ne _ _ (by decide)).trans (zP_same _ _ _)
      refine ⟨⟨_, hF1⟩, cR_sign (F := F2) (y := (0, (v, l, q), fun _ => -4, false, false)) ⟨hF1, (g 0 (by omega)).trans f0, (g 1 (by omega)).trans f1, (g 2 (by omega)).trans f2, (g 4 (by omega)).trans f4, (g 5 (by omega)).trans f5, s0 v⟩ h8 ((tp _).fr (zFr.put (A := fun z => z = 12) rfl) (by decide) (by decide)) hn q2 (fun h' ho hf => ⟨_, rfl, rdV_01 _, K h' ho ((fr9.trans fr12).trans hf)⟩)⟩
    · rw [zP_zP]
      have e2 : hdP T n l q = .inl (c, w) := by unfold hdP; rw [hx, c1, e1]; rfl
      rw [e2] at K
      exact K _ (rdX.of hb (h0.trans ((hr 0 (by omega)).trans f0)) (h1.trans ((hr 1 (by omega)).trans f1)) h2 h3 (nmP_l e1)) fr9
  · have e1 : hdP T n l q = .inl (1, tkF T n 0) := by unfold hdP; rw [hx]; rfl
    rw [e1] at K
    exact K _ (rdX.of hb ((hr 0 (by omega)).trans f0) ((hr 1 (by omega)).trans f1) h2 h3 (Or.inl rfl)) fr9
theorem cR_startOver {n1 l1 q1 n2 l q : Int32} {S1 S2 : Nat → Int32} (hF : h.2 9 = zO 6 F) (f0 : F 0 = .ref 10) (f1 : F 1 = .ref 12) (hb : bkA h 12 n1 l1 q1 S1) (hb2 : bkA h 15 n2 l q S2)
    (K : ∀ h' F', rdG h' (0, (1, l, q), fun _ => -4, false, false) F' → F' 8 = .int (nI 0) → zFr rdA h h' → Q none h') : zW (d + 3) m_Text_startOver e 0 [.ref 9, .ref 15] [] h Q := by
  refine b_Text_startOver_0 ⟨F, hF, _, f1, hb.1.imp fun _ w => w.1, cB_startWith hb (fun h1 hb1 hf1 => ⟨rfl, ?_⟩)⟩
  have hF1 : h1.2 9 = zO 6 F := (hf1 9 (by decide)).trans hF
  have hb15 := hb2.fr hf1 (by decide) (by decide)
  obtain ⟨B, hB, b0, b1, b2, s0, s1, s2⟩ := hb1.set
  obtain ⟨⟨D, hD, d0, d1, d2, d3⟩, D0⟩ := hb15
  refine ⟨F, hF1, _, f1, D, hD, _, d1, B, hB, ?_⟩
  rintro h10 rfl
  obtain ⟨B', hB', b0', b1', b2', s0', s1', s2'⟩ := (s1 l).set
  refine ⟨F, (zP_ne _ _ (by decide)).trans hF1, _, f1, D, (zP_ne _ _ (by decide)).trans hD, _, d2, B', hB', ?_⟩
  rintro h16 rfl
  refine ⟨by decide, F, (zP_ne _ _ (by decide)).trans ((zP_ne _ _ (by decide)).trans hF1), ?_⟩
  rintro h18 rfl
  refine ⟨by decide, _, zP_same _ _ _, ?_⟩
  rintro h20 rfl
  rw [zP_zP]
  refine ⟨_, zP_same _ _ _, ?_⟩
  rintro h22 rfl
  rw [zP_zP]
  refine ⟨_, zP_same _ _ _, ?_⟩
  rintro h24 rfl
  rw [zP_zP]
  refine ⟨_, zP_same _ _ _, ?_⟩
  rintro h26 rfl
  rw [zP_zP]
  refine K _ _ ⟨zP_same _ _ _, f0, f1, rfl, rfl, rfl, (s2' q).fr (zFr.put (A := fun z => z = 9) rfl) (by decide) (by decide)⟩ rfl ?_
  exact (((hf1.sub (fun a w => Or.inr w)).trans fr12).trans fr12).trans fr9
/-- the end of a text -/
def rdZ (h : zH) : rdF ⊕ rdS → Prop
  | .inl f => rdX h f.1 f.2
  | .inr x => ∃ F, rdG h x F
theorem cR_readAll {n1 l1 q1 n2 l q : Int32} {S1 S2 : Nat → Int32} (hl : 0 ≤ l ∧ l ≤ 99) (hq : 2 ≤ q ∧ q ≤ 6) (hF : h.2 9 = zO 6 F) (f0 : F 0 = .ref 10) (f1 : F 1 = .ref 12) (hb : bkA h 12 n1 l1 q1 S1) (hb2 : bkA h 15 n2 l q S2) (ht : tpA h n T) (hn : n ≤ 300)
    (K : ∀ h', rdZ h' (txP T n l q) → zFr rdA h h' → Q (some (.int (rdV (txP T n l q)))) h') : zW (d + 6) m_Text_readAll e 0 [.ref 9, .ref 15, zD, zD] [] h Q := by
  have stop : ∀ h1 i (o : rdF ⊕ rdS), txP T n l q = o → rdZ h1 o → zFr rdA h h1 → zW (d + 6) m_Text_readAll e 12 [.ref 9, zD, .int 0, .int i] [] h1 Q := fun h1 i o eo ho hf => by
    rw [eo] at K
    cases o with
    | inl f =>
      obtain ⟨⟨F1, hF1, -, -, g2, g3⟩, -, hc⟩ := id ho
      exact b_Text_readAll_12 (ifT rfl ⟨F1, hF1, _, g2, ifF hc.ne ⟨by decide, K _ ho hf⟩⟩)
    | inr x =>
      obtain ⟨F1, g⟩ := id ho
      exact b_Text_readAll_12 (ifT rfl ⟨F1, g.1, _, g.2.2.2.1, ifT rfl ⟨by decide, K _ ho hf⟩⟩)
  have loop : ∀ k i h1 (x : rdS), i + k = 301 → i ≤ x.1 → x.1 ≤ n → rdI x → rdO h1 (.inr x) → zFr rdA h h1 → txP T n l q = rdP T n k x → zW (d + 6) m_Text_readAll e 12 [.ref 9, zD, .int 1, .int (nI i)] [] h1 Q := by
    intro k
    induction k with
    | zero => intro i h1 x hk hi hx; omega
    | succ k ih =>
      intro i h1 x hk hi hx hI ho hf ee
      obtain ⟨F1, hG, h8⟩ := ho
      have ht1 := ht.fr hf (by decide) (by decide)
      have g9 : ∀ F2 : Nat → Value, (∀ k, k < 6 ∨ k = 9 → F2 k = F1 k) → rdG (zP h1 9 (zO 6 F2)) x F2 := fun F2 hr => ⟨zP_same _ _ _, (hr 0 (by omega)).trans hG.2.1, (hr 1 (by omega)).trans hG.2.2.1, (hr 2 (by omega)).trans hG.2.2.2.1, (hr 4 (by omega)).trans hG.2.2.2.2.1, (hr 5 (by omega)).trans hG.2.2.2.2.2.1, hG.2.2.2.2.2.2.fr (zFr.put (A := fun z => z = 9) rfl) (by decide) (by decide)⟩
      refine b_Text_readAll_12 (ifF (by decide) (ifF (show ¬ nI 300 < nI i from nI_nlt (by omega) (by omega)) ⟨⟨F1, hG.1⟩, cR_nextToken hG.1 hG.2.1 h8 ht1 hn hx (fun cx F2 htr hr => ⟨_, rfl, ifF (by decide) ⟨_, zP_same _ _ _, _, htr.1, ifB (fun ck => ?_) (fun ck => ?_)⟩⟩) (fun cx F2 htr hr h2 h3 => ⟨_, rfl, ifT rfl ?_⟩)⟩))
      · refine stop _ _ (.inr x) ?_ ⟨F2, g9 F2 hr⟩ (hf.trans fr9)
        rw [ee]
        unfold rdP
        rw [cx, ck]
        rfl
      · have e1 : rdP T n (k + 1) x = match lnP T n x with
          | .inl f => .inl f
          | .inr y => rdP T n k y := by
          show (if tkX T n x.1 = true then _ else if tkK T n x.1 = 0 then _ else _) = _
          rw [if_neg (by rw [cx]; decide), if_neg ck]
          cases lnP T n x <;> rfl
        rw [e1] at ee
        refine ⟨⟨_, zP_same _ _ _⟩, cR_takeLine (g9 F2 hr) hI htr (ht1.fr (zFr.put (A := fun z => z = 9) rfl) (by decide) (by decide)) hn hx (fun h2 ho2 hf2 => ⟨_, rfl, ?_⟩)⟩
        cases e2 : lnP T n x with
        | inl f =>
          rw [e2] at ee ho2
          exact ifT rfl (stop _ _ (.inl f) ee ho2 ((hf.trans fr9).trans hf2))
        | inr y =>
          rw [e2] at ee ho2
          obtain ⟨i1, i2, i3⟩ := lnP_inv hI hx e2
          rw [nI_1]
          exact ifF (show ¬ (1 : Int32) = 0 by decide) (ih (i + 1) h2 y (by omega) (by omega) i3 i1 ho2 ((hf.trans fr9).trans hf2) ee)
      · refine stop _ _ (.inl (1, tkF T n x.1)) ?_ (rdX.of hG.2.2.2.2.2.2 ((hr 0 (by omega)).trans hG.2.1) ((hr 1 (by omega)).trans hG.2.2.1) h2 h3 (Or.inl rfl)) (hf.trans fr9)
        rw [ee]
        unfold rdP
        rw [cx]
        rfl
  refine b_Text_readAll_0 ⟨⟨F, hF⟩, cR_startOver hF f0 f1 hb hb2 (fun h1 F1 hG g8 hf1 => ⟨rfl, ⟨_, hG.1⟩, cR_takeHead hG g8 (ht.fr hf1 (by decide) (by decide)) hn (fun h2 ho hf2 => ⟨_, rfl, ?_⟩)⟩)⟩
  cases e2 : hdP T n l q with
  | inl f =>
    rw [e2] at ho
    exact stop _ _ (.inl f) (by unfold txP; rw [e2]) ho (hf1.trans hf2)
  | inr y =>
    rw [e2] at ho
    obtain ⟨i1, i2⟩ := hdP_inv hl hq e2
    exact loop 301 0 h2 y rfl (Nat.zero_le _) i2 i1 ho (hf1.trans hf2) (by unfold txP; rw [e2])
end C
