/-! The class: a line of the text -/
theorem bkA.set {h : zH} {a : Nat} {n l s : Int32} {S : Nat → Int32} (b : bkA h a n l s S) : ∃ F, h.2 a = zO 0 F ∧ F 0 = .int n ∧ F 1 = .int l ∧ F 2 = .int s ∧ (∀ v, bkA (zP h a (zO 0 (zU F 0 (.int v)))) a v l s S) ∧ (∀ v, bkA (zP h a (zO 0 (zU F 1 (.int v)))) a n v s S) ∧ ∀ v, bkA (zP h a (zO 0 (zU F 2 (.int v)))) a n l v S := by
  obtain ⟨⟨F, hF, f0, f1, f2, f3⟩, S0, hS, hS0⟩ := b
  exact ⟨F, hF, f0, f1, f2, fun v => ⟨⟨_, zP_same _ _ _, rfl, f1, f2, f3⟩, S0, (zP_ne _ _ (by omega)).trans hS, hS0⟩, fun v => ⟨⟨_, zP_same _ _ _, f0, rfl, f2, f3⟩, S0, (zP_ne _ _ (by omega)).trans hS, hS0⟩, fun v => ⟨⟨_, zP_same _ _ _, f0, f1, rfl, f3⟩, S0, (zP_ne _ _ (by omega)).trans hS, hS0⟩⟩
def rdX (h : zH) (c : Int32) (w : Nat) : Prop := (∃ F, h.2 9 = zO 6 F ∧ F 0 = .ref 10 ∧ F 1 = .ref 12 ∧ F 2 = .int c ∧ F 3 = .int (nI w)) ∧ (∃ n l q S, bkA h 12 n l q S) ∧ cO c
def rdG (h : zH) (x : rdS) (F : Nat → Value) : Prop := h.2 9 = zO 6 F ∧ F 0 = .ref 10 ∧ F 1 = .ref 12 ∧ F 2 = .int 0 ∧ F 4 = .int (b01 x.2.2.2.1) ∧ F 5 = .int (b01 x.2.2.2.2) ∧ bkA h 12 x.2.1.1 x.2.1.2.1 x.2.1.2.2 x.2.2.1
def rdO (h : zH) : rdF ⊕ rdS → Prop
  | .inl f => rdX h f.1 f.2
  | .inr x => ∃ F, rdG h x F ∧ F 8 = .int (nI x.1)
def rdV : rdF ⊕ rdS → Int32
  | .inl _ => 0
  | .inr _ => 1
theorem rdV_01 (o : rdF ⊕ rdS) : rdV o = 0 ∨ rdV o = 1 := by
  cases o
  · exact Or.inl rfl
  · exact Or.inr rfl
abbrev rdA (z : Nat) : Prop := z = 9 ∨ z = 12 ∨ z = 13
theorem fr9 {h : zH} {c : zCell} : zFr rdA h (zP h 9 c) := zFr.put (Or.inl rfl)
theorem fr12 {h : zH} {c : zCell} : zFr rdA h (zP h 12 c) := zFr.put (Or.inr (Or.inl rfl))
theorem b01_0 {b : Bool} (h : b01 b = 0) : b = false := by
  cases b
  · rfl
  · exact absurd h (by decide)
theorem b01_n {b : Bool} (h : ¬ b01 b = 0) : b = true := by
  cases b
  · exact absurd rfl h
  · rfl
section C
variable {d : Nat} {e : Nat × Nat} {h : zH} {Q : zQ} {F : Nat → Value} {T : Nat → Int32} {n p : Nat} {x y : rdS}
theorem rdX.of {a l q : Int32} {S : Nat → Int32} {c : Int32} {w : Nat} (hb : bkA h 12 a l q S) (h0 : F 0 = .ref 10) (h1 : F 1 = .ref 12) (h2 : F 2 = .int c) (h3 : F 3 = .int (nI w)) (hc : cO c) : rdX (zP h 9 (zO 6 F)) c w :=
  ⟨⟨F, zP_same _ _ _, h0, h1, h2, h3⟩, ⟨_, _, _, _, hb.fr (zFr.put (A := fun z => z = 9) rfl) (by decide) (by decide)⟩, hc⟩
theorem cR_sign (hG : rdG h y F) (f8 : F 8 = .int (nI p)) (ht : tpA h n T) (hn : n ≤ 300) (hp : p ≤ n)
    (K : ∀ h', rdO h' (sgO T n p y) → zFr rdA h h' → Q (some (.int (rdV (sgO T n p y)))) h') : zW (d + 3) m_Text_takeSign e 0 [.ref 9] [] h Q := by
  obtain ⟨hF, f0, f1, f2, f4, f5, hb⟩ := hG
  refine cR_takeSign hF f0 f8 ht hn hp (fun p1 e1 q1 q2 F1 hr h8 => ?_) (fun c w e1 F1 h0 h1 h2 h3 => ?_)
  · have e2 : sgO T n p y = .inr (p1, y.2) := by unfold sgO; rw [e1]
    rw [e2] at K
    exact K _ ⟨F1, ⟨zP_same _ _ _, (hr 0 (by omega)).trans f0, (hr 1 (by omega)).trans f1, (hr 2 (by omega)).trans f2, (hr 4 (by omega)).trans f4, (hr 5 (by omega)).trans f5, hb.fr (zFr.put (A := fun z => z = 9) rfl) (by decide) (by decide)⟩, h8⟩ fr9
  · have e2 : sgO T n p y = .inl (c, w) := by unfold sgO; rw [e1]
    rw [e2] at K
    exact K _ (rdX.of hb (h0.trans f0) (h1.trans f1) h2 h3 (sgP_l e1)) fr9
theorem cR_takeLimit (hG : rdG h x F) (htr : trT F T n x.1) (hk : tkK T n x.1 ≠ 0) (ht : tpA h n T) (hn : n ≤ 300) (hp : x.1 ≤ n)
    (K : ∀ h', rdO h' (lmP T n x) → zFr rdA h h' → Q (some (.int (rdV (lmP T n x)))) h') : zW (d + 4) m_Text_takeLimit e 0 [.ref 9] [] h Q := by
  obtain ⟨hF, f0, f1, f2, f4, f5, hb⟩ := hG
  have he := tkE_le (T := T) hp
  have tp : ∀ z, tpA (zP h 9 z) n T := fun z => ht.fr (zFr.put (A := fun z => z = 9) rfl) (by decide) (by decide)
  refine b_Text_takeLimit_0 ⟨F, hF, _, f4, ifB (fun c => ⟨by decide, F, hF, ?_⟩) (fun c => ⟨⟨F, hF⟩, cR_refuse hF htr.2.1 ⟨_, rfl, by decide, ?_⟩⟩)⟩
  · have c' := b01_0 c
    rintro h4 rfl
    refine ⟨⟨_, zP_same _ _ _⟩, cR_takeNumber (zP_same _ _ _) f0 (htr.2.2 hk) (tp _) hn he.2 (fun v p1 e1 q1 q2 F1 hr h7 h8 h9 => ⟨_, rfl, ifF (by decide) ?_⟩) (fun c w e1 F1 h0 h1 h2 h3 => ⟨_, rfl, ifT rfl ⟨by decide, ?_⟩⟩)⟩
    · rw [zP_zP]
      have e2 : lmP T n x = sgO T n p1 (0, (x.2.1.1, v, x.2.1.2.2), x.2.2.1, true, x.2.2.2.2) := by unfold lmP; rw [if_neg (by rw [c']; decide), e1]
      rw [e2] at K
      obtain ⟨B, hB, b0, b1, b2, s0, s1, s2⟩ := (hb.fr (zFr.put (A := fun z => z = 9) (h := h) (c := zO 6 F1) rfl) (by decide) (by decide)).set
      refine ⟨_, zP_same _ _ _, _, (hr 1 (by omega)).trans f1, _, zP_same _ _ _, _, h9, B, hB, ?_⟩
      rintro h13 rfl
      have hF1 : (zP (zP h 9 (zO 6 F1)) 12 (zO 0 (zU B 1 (.int v)))).2 9 = zO 6 F1 := (zP_ne _ _ (by decide)).trans (zP_same _ _ _)
      refine ⟨⟨_, hF1⟩, cR_sign (F := F1) (y := (0, (x.2.1.1, v, x.2.1.2.2), x.2.2.1, true, x.2.2.2.2)) ⟨hF1, (hr 0 (by omega)).trans f0, (hr 1 (by omega)).trans f1, (hr 2 (by omega)).trans f2, hr 4 (by omega), (hr 5 (by omega)).trans f5, s1 v⟩ h8 ((tp _).fr (zFr.put (A := fun z => z = 12) rfl) (by decide) (by decide)) hn q2 (fun h' ho hf => ⟨_, rfl, rdV_01 _, K h' ho ((fr9.trans fr12).trans hf)⟩)⟩
    · rw [zP_zP]
      have e2 : lmP T n x = .inl (c, w) := by unfold lmP; rw [if_neg (by rw [c']; decide), e1]
      rw [e2] at K
      exact K _ (rdX.of hb (h0.trans f0) (h1.trans f1) h2 h3 (nmP_l e1)) fr9
  · have c' := b01_n c
    have e2 : lmP T n x = .inl (4, tkF T n x.1) := by unfold lmP; rw [if_pos c']
    rw [e2] at K
    exact K _ (rdX.of hb f0 f1 rfl rfl (Or.inr (Or.inr (Or.inr rfl)))) fr9
theorem cR_takeLeast (hG : rdG h x F) (htr : trT F T n x.1) (hk : tkK T n x.1 ≠ 0) (ht : tpA h n T) (hn : n ≤ 300) (hp : x.1 ≤ n)
    (K : ∀ h', rdO h' (lsP T n x) → zFr rdA h h' → Q (some (.int (rdV (lsP T n x)))) h') : zW (d + 4) m_Text_takeLeast e 0 [.ref 9] [] h Q := by
  obtain ⟨hF, f0, f1, f2, f4, f5, hb⟩ := hG
  have he := tkE_le (T := T) hp
  have tp : ∀ z, tpA (zP h 9 z) n T := fun z => ht.fr (zFr.put (A := fun z => z = 9) rfl) (by decide) (by decide)
  refine b_Text_takeLeast_0 ⟨F, hF, _, f5, ifB (fun c => ⟨by decide, F, hF, ?_⟩) (fun c => ⟨⟨F, hF⟩, cR_refuse hF htr.2.1 ⟨_, rfl, by decide, ?_⟩⟩)⟩
  · have c' := b01_0 c
    rintro h4 rfl
    refine ⟨⟨_, zP_same _ _ _⟩, cR_takeNumber (zP_same _ _ _) f0 (htr.2.2 hk) (tp _) hn he.2 (fun v p1 e1 q1 q2 F1 hr h7 h8 h9 => ⟨_, rfl, ifF (by decide) ?_⟩) (fun c w e1 F1 h0 h1 h2 h3 => ⟨_, rfl, ifT rfl ⟨by decide, ?_⟩⟩)⟩
    · rw [zP_zP]
      have e2 : lsP T n x = sgO T n p1 (0, (x.2.1.1, x.2.1.2.1, v), x.2.2.1, x.2.2.2.1, true) := by unfold lsP; rw [if_neg (by rw [c']; decide), e1]
      rw [e2] at K
      obtain ⟨B, hB, b0, b1, b2, s0, s1, s2⟩ := (hb.fr (zFr.put (A := fun z => z = 9) (h := h) (c := zO 6 F1) rfl) (by decide) (by decide)).set
      refine ⟨_, zP_same _ _ _, _, (hr 1 (by omega)).trans f1, _, zP_same _ _ _, _, h9, B, hB, ?_⟩
      rintro h13 rfl
      have hF1 : (zP (zP h 9 (zO 6 F1)) 12 (zO 0 (zU B 2 (.int v)))).2 9 = zO 6 F1 := (zP_ne _ _ (by decide)).trans (zP_same _ _ _)
      refine ⟨⟨_, hF1⟩, cR_sign (F := F1) (y := (0, (x.2.1.1, x.2.1.2.1, v), x.2.2.1, x.2.2.2.1, true)) ⟨hF1, (hr 0 (by omega)).trans f0, (hr 1 (by omega)).trans f1, (hr 2 (by omega)).trans f2, (hr 4 (by omega)).trans f4, hr 5 (by omega), s2 v⟩ h8 ((tp _).fr (zFr.put (A := fun z => z = 12) rfl) (by decide) (by decide)) hn q2 (fun h' ho hf => ⟨_, rfl, rdV_01 _, K h' ho ((fr9.trans fr12).trans hf)⟩)⟩
    · rw [zP_zP]
      have e2 : lsP T n x = .inl (c, w) := by unfold lsP; rw [if_neg (by rw [c']; decide), e1]
      rw [e2] at K
      exact K _ (rdX.of hb (h0.trans f0) (h1.trans f1) h2 h3 (nmP_l e1)) fr9
  · have c' := b01_n c
    have e2 : lsP T n x = .inl (4, tkF T n x.1) := by unfold lsP; rw [if_pos c']
    rw [e2] at K
    exact K _ (rdX.of hb f0 f1 rfl rfl (Or.inr (Or.inr (Or.inr rfl)))) fr9
theorem n1_sub {N : Nat} (h1 : 1 ≤ N) : nI N - 1 = nI (N - 1) := pk_sub (a := N) (b := 1) h1
theorem cR_takeHear (hG : rdG h x F) (hI : rdI x) (htr : trT F T n x.1) (hk : tkK T n x.1 ≠ 0) (ht : tpA h n T) (hn : n ≤ 300) (hp : x.1 ≤ n)
    (K : ∀ h', rdO h' (heP T n x) → zFr rdA h h' → Q (some (.int (rdV (heP T n x)))) h') : zW (d + 4) m_Text_takeHear e 0 [.ref 9, zD, zD] [] h Q := by
  obtain ⟨hF, f0, f1, f2, f4, f5, hb⟩ := hG
  obtain ⟨⟨N, hN1, hN7, hNe⟩, -⟩ := hI
  have he := tkE_le (T := T) hp
  have tp : ∀ z, tpA (zP h 9 z) n T := fun z => ht.fr (zFr.put (A := fun z => z = 9) rfl) (by decide) (by decide)
  have bp : ∀ z, bkA (zP h 9 z) 12 x.2.1.1 x.2.1.2.1 x.2.1.2.2 x.2.2.1 := fun z => hb.fr (zFr.put (A := fun z => z = 9) rfl) (by decide) (by decide)
  refine b_Text_takeHear_0 ⟨⟨F, hF⟩, cR_takeNumber hF f0 (htr.2.2 hk) ht hn he.2 (fun b p1 e1 q1 q2 F1 hr h7 h8 h9 => ⟨_, rfl, ifF (by decide) ⟨_, zP_same _ _ _, _, h9, ?_⟩⟩) (fun c w e1 F1 h0 h1 h2 h3 => ⟨_, rfl, ifT rfl ⟨by decide, ?_⟩⟩)⟩
  · obtain ⟨B, hB, b0, -⟩ := (bp (zO 6 F1)).set
    obtain ⟨bj, hbj, rfl⟩ := nI_of2 (M := 15) (n := 15) rfl (nmP_r e1).1 (nmP_b e1).2
    refine b_Text_takeHear_17 ⟨_, zP_same _ _ _, _, (hr 1 (by omega)).trans f1, B, hB, _, b0, ⟨_, zP_same _ _ _⟩, cR_takeNumber (zP_same _ _ _) ((hr 0 (by omega)).trans f0) h8 (tp _) hn q2 (fun r p2 e2 q3 q4 F2 hr2 h72 h82 h92 => ⟨_, rfl, ifF (by decide) ?_⟩) (fun c w e2 F2 h0 h1 h2 h3 => ⟨_, rfl, ifT rfl ⟨by decide, ?_⟩⟩)⟩
    · rw [zP_zP]
      have e2' := e2
      rw [hNe, n1_sub hN1] at e2'
      obtain ⟨rj, hrj, rfl⟩ := nI_of2 (M := nI (N - 1)) (n := N - 1) (nI_toInt (by omega)) (nmP_r e2').1 (nmP_b e2').2
      have g0 : F2 0 = .ref 10 := (hr2 0 (by omega)).trans ((hr 0 (by omega)).trans f0)
      have g1 : F2 1 = .ref 12 := (hr2 1 (by omega)).trans ((hr 1 (by omega)).trans f1)
      refine ⟨_, zP_same _ _ _, _, h92, _, zP_same _ _ _, _, g1, (bp _).1.imp fun _ w => w.1, cB_stampAt (bp _) (by omega) (by omega) ⟨_, rfl, ifB (fun c => ⟨⟨_, zP_same _ _ _⟩, cR_takeNumber (zP_same _ _ _) g0 h82 (tp _) hn q4 (fun t p3 e3 q5 q6 F3 hr3 h73 h83 h93 => ⟨_, rfl, ifF (by decide) ?_⟩) (fun c2 w e3 F3 h0 h1 h2 h3 => ⟨_, rfl, ifT rfl ⟨by decide, ?_⟩⟩)⟩) (fun c => ⟨⟨_, zP_same _ _ _⟩, cR_refuse (zP_same _ _ _) h72 ⟨_, rfl, by decide, ?_⟩⟩)⟩⟩
      · rw [zP_zP]
        have e4 : heP T n x = sgO T n p3 (0, x.2.1, zU x.2.2.1 (16 * rj + bj) t, x.2.2.2) := by
          unfold heP
          rw [e1]
          show (match nmP T n 0 (x.2.1.1 - 1) p1 with
            | .inl f => Sum.inl f
            | .inr (r, p2) => _) = _
          rw [e2]
          simp only [nI_clamp (show rj < 2 ^ 31 by omega), nI_clamp (show bj < 2 ^ 31 by omega), c, if_true, e3]
        rw [e4] at K
        refine ⟨_, zP_same _ _ _, _, (hr3 1 (by omega)).trans g1, _, zP_same _ _ _, _, h93, (bp _).1.imp fun _ w => w.1, cB_putStamp (bp _) (by omega) (by omega) (fun h' hb' hf' => ⟨rfl, ?_⟩)⟩
        have hF' : h'.2 9 = zO 6 F3 := (hf' 9 (by decide)).trans (zP_same _ _ _)
        refine ⟨⟨_, hF'⟩, cR_sign (F := F3) (y := (0, x.2.1, zU x.2.2.1 (16 * rj + bj) t, x.2.2.2)) ⟨hF', (hr3 0 (by omega)).trans g0, (hr3 1 (by omega)).trans g1, (hr3 2 (by omega)).trans ((hr2 2 (by omega)).trans ((hr 2 (by omega)).trans f2)), (hr3 4 (by omega)).trans ((hr2 4 (by omega)).trans ((hr 4 (by omega)).trans f4)), (hr3 5 (by omega)).trans ((hr2 5 (by omega)).trans ((hr 5 (by omega)).trans f5)), hb'⟩ h83 ((tp _).fr hf' (by decide) (by decide)) hn q6 (fun h'' ho hf => ⟨_, rfl, rdV_01 _, K h'' ho ((fr9.trans (hf'.sub (fun a q => Or.inr (Or.inr q)))).trans hf)⟩)⟩
      · rw [zP_zP]
        have e4 : heP T n x = .inl (c2, w) := by
          unfold heP
          rw [e1]
          show (match nmP T n 0 (x.2.1.1 - 1) p1 with
            | .inl f => Sum.inl f
            | .inr (r, p2) => _) = _
          rw [e2]
          simp only [nI_clamp (show rj < 2 ^ 31 by omega), nI_clamp (show bj < 2 ^ 31 by omega), c, if_true, e3]
        rw [e4] at K
        exact K _ (rdX.of hb (h0.trans g0) (h1.trans g1) h2 h3 (nmP_l e3)) fr9
      · rw [zP_zP]
        have e4 : heP T n x = .inl (4, tkF T n p1) := by
          unfold heP
          rw [e1]
          show (match nmP T n 0 (x.2.1.1 - 1) p1 with
            | .inl f => Sum.inl f
            | .inr (r, p2) => _) = _
          rw [e2]
          simp only [nI_clamp (show rj < 2 ^ 31 by omega), nI_clamp (show bj < 2 ^ 31 by omega), c, if_false]
        rw [e4] at K
        exact K _ (rdX.of hb g0 g1 rfl rfl (Or.inr (Or.inr (Or.inr rfl)))) fr9
    · rw [zP_zP]
      have e4 : heP T n x = .inl (c, w) := by
        unfold heP
        rw [e1]
        show (match nmP T n 0 (x.2.1.1 - 1) p1 with
          | .inl f => Sum.inl f
          | .inr (r, p2) => _) = _
        rw [e2]
      rw [e4] at K
      exact K _ (rdX.of hb (h0.trans ((hr 0 (by omega)).trans f0)) (h1.trans ((hr 1 (by omega)).trans f1)) h2 h3 (nmP_l e2)) fr9
  · have e4 : heP T n x = .inl (c, w) := by unfold heP; rw [e1]
    rw [e4] at K
    exact K _ (rdX.of hb (h0.trans f0) (h1.trans f1) h2 h3 (nmP_l e1)) fr9
end C
