/-! The Model: one line -/
def gT2 (G G' : Nat → Value) : Prop := ∀ k, k < 6 ∨ 13 < k → G' k = G k
theorem gT2.trans {G G1 G2 : Nat → Value} (a : gT2 G G1) (b : gT2 G1 G2) : gT2 G G2 := fun k hk => (b k hk).trans (a k hk)
theorem gTf.to2 {G G' : Nat → Value} (a : gTf G G') : gT2 G G' := fun k hk => a k (by omega)
theorem gT2.zU {G : Nat → Value} {k : Nat} {v : Value} (hk : 5 < k ∧ k < 14) : gT2 G (zU G k v) := fun j hj => zU_ne _ _ (by omega)
theorem gT2.R {G G' : Nat → Value} (g : gT2 G G') (hR : mR G) : mR G' := mR_of hR (fun k hk => g k (by omega))
def mO (h : zH) (G : Nat → Value) (T : Nat → Int32) (n : Nat) : rdF ⊕ rdS → Prop
  | .inl f => ∃ G', h.2 139 = zO 10 G' ∧ gT2 G G' ∧ mS G' T n (.inl f) ∧ ∃ g, h.2 141 = zI 0 115 g
  | .inr x => ∃ G', h.2 139 = zO 10 G' ∧ gT2 G G' ∧ mS G' T n (.inr x.1) ∧ G' 12 = .int (b01 x.2.2.2.1) ∧ G' 13 = .int (b01 x.2.2.2.2) ∧ mfA h x.2.1.1 x.2.1.2.1 x.2.1.2.2 x.2.2.1
section C
variable {d : Nat} {e : Nat × Nat} {h h1 : zH} {Q : zQ} {G G1 G4 : Nat → Value} {T : Nat → Int32} {n p : Nat} {x y : rdS}
theorem mV.to2 (v : mV h G n T) (g : gT2 G G1) : mV (zP h 139 (zO 10 G1)) G1 n T := ⟨zP_same _ _ _, g.R v.2.1, (g 5 (by omega)).trans v.2.2.1, mtp v.2.2.2 _⟩
theorem mO_sg (hG : h1.2 139 = zO 10 G4) (g : gT2 G G4) (hso : mSO G4 T n (sgO T n p y)) (h12 : G4 12 = .int (b01 y.2.2.2.1)) (h13 : G4 13 = .int (b01 y.2.2.2.2)) (hm : mfA h1 y.2.1.1 y.2.1.2.1 y.2.1.2.2 y.2.2.1) : mO h1 G T n (sgO T n p y) := by
  cases e : sgO T n p y with
  | inl f =>
    rw [e] at hso
    exact ⟨G4, hG, g, hso, hm.imp (fun _ w => w.1)⟩
  | inr z =>
    rw [e] at hso
    have q := (sgO_r e).1
    refine ⟨G4, hG, g, hso, ?_⟩
    rw [q]
    exact ⟨h12, h13, hm⟩
theorem cM_line65f {f : rdF} {a b : Int32} (hG : h.2 139 = zO 10 G) (hs : mS G T n (.inl f)) (K : Q none h) : zW (d + 5) m_Mo_readLine e 65 [.ref 139, .int a] [.int b, .ref 139] h Q :=
  b_Mo_readLine_65 ⟨⟨G, hG⟩, cM_req_f hG hs.1 hs.2.1.ne ⟨rfl, ⟨G, hG⟩, cM_reads_f hG hs.1 hs.2.1 ⟨rfl, G, hG, _, hs.1, ifF hs.2.1.pos K⟩⟩⟩
theorem cM_readLine (hV : mV h G n T) (hn : n ≤ 300) (hT : TpK n T) (hI : rdI x) (hs : mS G T n (.inr x.1)) (hx : tkX T n x.1 = false) (g12 : G 12 = .int (b01 x.2.2.2.1)) (g13 : G 13 = .int (b01 x.2.2.2.2)) (hm : mfA h x.2.1.1 x.2.1.2.1 x.2.1.2.2 x.2.2.1)
    (K : ∀ h', mO h' G T n (lnP T n x) → zFr mfB h h' → Q none h') : zW (d + 5) m_Mo_readLine e 0 [.ref 139, zD] [] h Q := by
  have hG := hV.1
  have g1 : G 1 = .ref 141 := hV.2.1.2.1
  obtain ⟨g10, hk, -⟩ := mS_g hs hx
  have he := tkE_le (T := T) hs.1
  have hd : ∃ g, h.2 141 = zI 0 115 g := hm.imp fun _ w => w.1
  have flt : ∀ (f : rdF) (G1 : Nat → Value), lnP T n x = .inl f → gT2 G G1 → mS G1 T n (.inl f) → Q none (zP h 139 (zO 10 G1)) := fun f G1 ef r1 hs1 => by
    rw [ef] at K
    exact K _ ⟨G1, zP_same _ _ _, r1, hs1, hd.imp fun _ w => (zP_ne _ _ (by decide)).trans w⟩ fr139
  have p65_1 : nmQ T n x.1 2 → zW (d + 5) m_Mo_readLine e 65 [.ref 139, .int 1] [.int 1, .ref 139] h Q := fun cq => by
    have el : lnP T n x = heP T n x := by unfold lnP; rw [if_pos (nmB_t cq)]
    refine b_Mo_readLine_65 ⟨⟨G, hG⟩, cM_req_y (by decide) ⟨rfl, ⟨G, hG⟩, cM_reads (p := tkE T n x.1) hG hV.2.1 hV.2.2.1 hk.1 g10 hV.2.2.2 hn hT he.2 (fun G1 r1 _ hs1 => ⟨rfl, ?_⟩)⟩⟩
    cases hx1 : tkX T n (tkE T n x.1) with
    | true =>
      have hs1' := mS_x hs1 hx1
      refine ⟨_, zP_same _ _ _, _, hs1'.1, ifF hs1'.2.1.pos (flt _ G1 ?_ r1.to2 hs1')⟩
      rw [el]
      exact heP_1 (by unfold nmP; rw [if_pos hx1])
    | false =>
      obtain ⟨g101, -, -⟩ := mS_g hs1 hx1
      refine ⟨_, zP_same _ _ _, _, g101, ifT (by decide) (ifT rfl ⟨⟨_, zP_same _ _ _⟩, cM_readHear (hV.to r1) hn hT hI hs1 (mfp hm _) (fun f G2 ef r2 hs2 => ⟨rfl, ⟨_, zP_same _ _ _⟩, cM_stop_f (zP_same _ _ _) hs2 ⟨rfl, ?_⟩⟩) (fun S p3 G2 h2 ef r2 hs2 hG2 hm2 hf2 => ⟨rfl, ⟨_, hG2⟩, cM_stop (y := (0, x.2.1, S, x.2.2.2)) ⟨hG2, (r1.trans r2).R hV.2.1, ((r1.trans r2) 5 (by omega)).trans hV.2.2.1, (mtp hV.2.2.2 _).fr hf2 (by decide)⟩ hn hT hs2 (fun G3 r3 hs3 => ⟨rfl, ?_⟩)⟩)⟩)⟩
      · rw [zP_zP]
        exact flt f G2 (el.trans ef) (r1.trans r2).to2 hs2
      · have r13 := (r1.trans r2).trans r3
        refine K _ ?_ ((fr139.trans hf2).trans fr139)
        rw [el, ef]
        exact mO_sg (zP_same _ _ _) r13.to2 hs3 ((r13 12 (by omega)).trans g12) ((r13 13 (by omega)).trans g13) (mfp hm2 _)
  have p65_2 : ¬ nmQ T n x.1 2 → nmQ T n x.1 3 → x.2.2.2.1 = false → zW (d + 5) m_Mo_readLine e 65 [.ref 139, .int 2] [.int 1, .ref 139] h Q := fun c2 cq cf => by
    have el : lnP T n x = lmP T n x := by unfold lnP; rw [nmB_f c2, nmB_t cq]; rfl
    refine b_Mo_readLine_65 ⟨⟨G, hG⟩, cM_req_y (by decide) ⟨rfl, ⟨G, hG⟩, cM_reads (p := tkE T n x.1) hG hV.2.1 hV.2.2.1 hk.1 g10 hV.2.2.2 hn hT he.2 (fun G1 r1 _ hs1 => ⟨rfl, ?_⟩)⟩⟩
    cases hx1 : tkX T n (tkE T n x.1) with
    | true =>
      have hs1' := mS_x hs1 hx1
      refine ⟨_, zP_same _ _ _, _, hs1'.1, ifF hs1'.2.1.pos (flt _ G1 ?_ r1.to2 hs1')⟩
      rw [el]
      unfold lmP nmP
      rw [cf, if_pos hx1]
      rfl
    | false =>
      obtain ⟨g101, -, -⟩ := mS_g hs1 hx1
      refine ⟨_, zP_same _ _ _, _, g101, ifT (by decide) (ifF (by decide) (ifT rfl ⟨by decide, _, zP_same _ _ _, ?_⟩))⟩
      rintro h14 rfl
      rw [zP_zP]
      have r2 : gT2 G (zU G1 12 (.int 1)) := r1.to2.trans (gT2.zU (by decide))
      have hs2 : mS (zU G1 12 (.int 1)) T n (.inr (tkE T n x.1)) := hs1
      refine ⟨_, zP_same _ _ _, _, (r2 1 (by omega)).trans g1, ⟨_, zP_same _ _ _⟩, cM_rdN (hV.to2 r2) hn hT hs2 (fun v p1 e1 G3 r3 hs3 => ⟨_, rfl, ?_⟩) (fun c w e1 G3 r3 hs3 => ⟨_, rfl, ?_⟩)⟩
      · rw [zP_zP]
        obtain ⟨f, hf, hf0, hf1, hf2, hf3⟩ := mfp hm (zO 10 G3)
        have ef : lmP T n x = sgO T n p1 (0, (x.2.1.1, v, x.2.1.2.2), x.2.2.1, true, x.2.2.2.2) := by unfold lmP; rw [if_neg (by rw [cf]; decide), e1]
        refine ⟨115, f, hf, zi1, ?_⟩
        rintro h22 rfl
        have r23 := r2.trans r3.to2
        have hG3 : (zP (zP h 139 (zO 10 G3)) 141 (zI 0 115 (zU f (1 : Int32).toNatClampNeg v))).2 139 = zO 10 G3 := (zP_ne _ _ (by decide)).trans (zP_same _ _ _)
        refine ⟨⟨_, hG3⟩, cM_stop (y := (0, (x.2.1.1, v, x.2.1.2.2), x.2.2.1, true, x.2.2.2.2)) ⟨hG3, r23.R hV.2.1, (r23 5 (by omega)).trans hV.2.2.1, (mtp hV.2.2.2 _).fr (zFr.put (A := fun z => z = 141) rfl) (by decide)⟩ hn hT hs3 (fun G4 r4 hs4 => ⟨rfl, ?_⟩)⟩
        refine K _ ?_ ((fr139.trans fr141).trans fr139)
        rw [el, ef]
        refine mO_sg (zP_same _ _ _) (r23.trans r4.to2) hs4 ((r4 12 (by omega)).trans (r3 12 (by omega))) ((r4 13 (by omega)).trans ((r3 13 (by omega)).trans ((r1 13 (by omega)).trans g13))) ?_
        refine mfp ⟨_, zP_same _ _ _, ?_, ?_, ?_, fun k hk => ?_⟩ _
        · exact hf0
        · rfl
        · exact hf2
        · rw [show (1 : Int32).toNatClampNeg = 1 from rfl, zU_ne _ _ (by omega)]; exact hf3 k hk
      · rw [zP_zP]
        obtain ⟨f, hf, hf0, hf1, hf2, hf3⟩ := mfp hm (zO 10 G3)
        have ef : lmP T n x = .inl (c, w) := by unfold lmP; rw [if_neg (by rw [cf]; decide), e1]
        refine ⟨115, f, hf, zi1, ?_⟩
        rintro h22 rfl
        have hG3 : (zP (zP h 139 (zO 10 G3)) 141 (zI 0 115 (zU f (1 : Int32).toNatClampNeg 0))).2 139 = zO 10 G3 := (zP_ne _ _ (by decide)).trans (zP_same _ _ _)
        refine ⟨⟨_, hG3⟩, cM_stop_f hG3 hs3 ⟨rfl, K _ ?_ (fr139.trans fr141)⟩⟩
        rw [el, ef]
        exact ⟨G3, hG3, r2.trans r3.to2, hs3, _, zP_same _ _ _⟩
  have p65_3 : ¬ nmQ T n x.1 2 → ¬ nmQ T n x.1 3 → nmQ T n x.1 4 → x.2.2.2.2 = false → zW (d + 5) m_Mo_readLine e 65 [.ref 139, .int 3] [.int 1, .ref 139] h Q := fun c2 c3 cq cf => by
    have el : lnP T n x = lsP T n x := by unfold lnP; rw [nmB_f c2, nmB_f c3, nmB_t cq]; rfl
    refine b_Mo_readLine_65 ⟨⟨G, hG⟩, cM_req_y (by decide) ⟨rfl, ⟨G, hG⟩, cM_reads (p := tkE T n x.1) hG hV.2.1 hV.2.2.1 hk.1 g10 hV.2.2.2 hn hT he.2 (fun G1 r1 _ hs1 => ⟨rfl, ?_⟩)⟩⟩
    cases hx1 : tkX T n (tkE T n x.1) with
    | true =>
      have hs1' := mS_x hs1 hx1
      refine ⟨_, zP_same _ _ _, _, hs1'.1, ifF hs1'.2.1.pos (flt _ G1 ?_ r1.to2 hs1')⟩
      rw [el]
      unfold lsP nmP
      rw [cf, if_pos hx1]
      rfl
    | false =>
      obtain ⟨g101, -, -⟩ := mS_g hs1 hx1
      refine ⟨_, zP_same _ _ _, _, g101, ifT (by decide) (ifF (by decide) (ifF (by decide) ⟨by decide, _, zP_same _ _ _, ?_⟩))⟩
      rintro h14 rfl
      rw [zP_zP]
      have r2 : gT2 G (zU G1 13 (.int 1)) := r1.to2.trans (gT2.zU (by decide))
      have hs2 : mS (zU G1 13 (.int 1)) T n (.inr (tkE T n x.1)) := hs1
      refine ⟨_, zP_same _ _ _, _, (r2 1 (by omega)).trans g1, ⟨_, zP_same _ _ _⟩, cM_rdN (hV.to2 r2) hn hT hs2 (fun v p1 e1 G3 r3 hs3 => ⟨_, rfl, ?_⟩) (fun c w e1 G3 r3 hs3 => ⟨_, rfl, ?_⟩)⟩
      · rw [zP_zP]
        obtain ⟨f, hf, hf0, hf1, hf2, hf3⟩ := mfp hm (zO 10 G3)
        have ef : lsP T n x = sgO T n p1 (0, (x.2.1.1, x.2.1.2.1, v), x.2.2.1, x.2.2.2.1, true) := by unfold lsP; rw [if_neg (by rw [cf]; decide), e1]
        refine ⟨115, f, hf, zi2, ?_⟩
        rintro h22 rfl
        have r23 := r2.trans r3.to2
        have hG3 : (zP (zP h 139 (zO 10 G3)) 141 (zI 0 115 (zU f (2 : Int32).toNatClampNeg v))).2 139 = zO 10 G3 := (zP_ne _ _ (by decide)).trans (zP_same _ _ _)
        refine ⟨⟨_, hG3⟩, cM_stop (y := (0, (x.2.1.1, x.2.1.2.1, v), x.2.2.1, x.2.2.2.1, true)) ⟨hG3, r23.R hV.2.1, (r23 5 (by omega)).trans hV.2.2.1, (mtp hV.2.2.2 _).fr (zFr.put (A := fun z => z = 141) rfl) (by decide)⟩ hn hT hs3 (fun G4 r4 hs4 => ⟨rfl, ?_⟩)⟩
        refine K _ ?_ ((fr139.trans fr141).trans fr139)
        rw [el, ef]
        refine mO_sg (zP_same _ _ _) (r23.trans r4.to2) hs4 ((r4 12 (by omega)).trans ((r3 12 (by omega)).trans ((r1 12 (by omega)).trans g12))) ((r4 13 (by omega)).trans (r3 13 (by omega))) ?_
        refine mfp ⟨_, zP_same _ _ _, ?_, ?_, ?_, fun k hk => ?_⟩ _
        · exact hf0
        · exact hf1
        · rfl
        · rw [show (2 : Int32).toNatClampNeg = 2 from rfl, zU_ne _ _ (by omega)]; exact hf3 k hk
      · rw [zP_zP]
        obtain ⟨f, hf, hf0, hf1, hf2, hf3⟩ := mfp hm (zO 10 G3)
        have ef : lsP T n x = .inl (c, w) := by unfold lsP; rw [if_neg (by rw [cf]; decide), e1]
        refine ⟨115, f, hf, zi2, ?_⟩
        rintro h22 rfl
        have hG3 : (zP (zP h 139 (zO 10 G3)) 141 (zI 0 115 (zU f (2 : Int32).toNatClampNeg 0))).2 139 = zO 10 G3 := (zP_ne _ _ (by decide)).trans (zP_same _ _ _)
        refine ⟨⟨_, hG3⟩, cM_stop_f hG3 hs3 ⟨rfl, K _ ?_ (fr139.trans fr141)⟩⟩
        rw [el, ef]
        exact ⟨G3, hG3, r2.trans r3.to2, hs3, _, zP_same _ _ _⟩
  have bad : ∀ a : Int32, ¬ a = 2 → ¬ a = 3 → lnP T n x = .inl (2, tkF T n x.1) → zW (d + 5) m_Mo_readLine e 21 [.ref 139, .int a] [.int 0, .ref 139] h Q := fun a a2 a3 ef => by
    have hs1 : mS (zU (zU G 10 (.int 2)) 11 (.int (nI (tkF T n x.1)))) T n (.inl (2, tkF T n x.1)) := ⟨rfl, Or.inr (Or.inl rfl), rfl⟩
    refine b_Mo_readLine_21 ⟨⟨G, hG⟩, cM_req_n hG g10 hk.2.1 ⟨rfl, ifF a2 ?_⟩⟩
    refine b_Mo_readLine_38 ⟨⟨_, zP_same _ _ _⟩, cM_req_y (by decide) ⟨rfl, ifF a3 (cM_line65f (zP_same _ _ _) hs1 ?_)⟩⟩
    exact flt _ _ ef ((gT2.zU (by decide)).trans (gT2.zU (by decide))) hs1
  have twice : ∀ a b : Int32, (lnP T n x = .inl (4, tkF T n x.1)) → zW (d + 5) m_Mo_readLine e 65 [.ref 139, .int a] [.int 0, .ref 139] h Q := fun a b ef => by
    have hs1 : mS (zU (zU G 10 (.int 4)) 11 (.int (nI (tkF T n x.1)))) T n (.inl (4, tkF T n x.1)) := ⟨rfl, Or.inr (Or.inr (Or.inr rfl)), rfl⟩
    refine b_Mo_readLine_65 ⟨⟨G, hG⟩, cM_req_n hG g10 hk.2.1 ⟨rfl, ⟨_, zP_same _ _ _⟩, cM_reads_f (zP_same _ _ _) hs1.1 hs1.2.1 ⟨rfl, _, zP_same _ _ _, _, hs1.1, ifF hs1.2.1.pos ?_⟩⟩⟩
    exact flt _ _ ef ((gT2.zU (by decide)).trans (gT2.zU (by decide))) hs1
  refine b_Mo_readLine_0 ⟨⟨G, hG⟩, cM_lineNow hG hV.2.1 hV.2.2.1 hk hV.2.2.2 hn hs.1 ⟨_, rfl, ?_⟩⟩
  rcases nm_dec T n x.1 1 with c1 | c1
  · have l1 := c1.2.1
    have n2 : ¬ nmQ T n x.1 2 := fun c => by
      have l2 := c.2.1
      rw [show (zTx 1).length = 6 from rfl] at l1
      rw [show (zTx 2).length = 4 from rfl] at l2
      omega
    have n3 : ¬ nmQ T n x.1 3 := fun c => by
      have l2 := c.2.1
      rw [show (zTx 1).length = 6 from rfl] at l1
      rw [show (zTx 3).length = 5 from rfl] at l2
      omega
    have n4 : ¬ nmQ T n x.1 4 := fun c => by
      have l2 := c.2.1
      rw [show (zTx 1).length = 6 from rfl] at l1
      rw [show (zTx 4).length = 5 from rfl] at l2
      omega
    have ev : lnV T n x.1 = 0 := by unfold lnV; rw [if_pos (nmB_t c1)]
    have ef : lnP T n x = .inl (2, tkF T n x.1) := by unfold lnP; rw [nmB_f n2, nmB_f n3, nmB_f n4]; rfl
    rw [ev]
    exact ifF (by decide) (ifT rfl (bad 0 (by decide) (by decide) ef))
  · rcases nm_dec T n x.1 2 with c2 | c2
    · have ev : lnV T n x.1 = 1 := by unfold lnV; rw [nmB_f c1, nmB_t c2]; rfl
      rw [ev]
      refine ifF (by decide) (ifF (by decide) (b_Mo_readLine_21 ⟨⟨G, hG⟩, cM_req_y (by decide) ⟨rfl, ifF (by decide) ?_⟩⟩))
      exact b_Mo_readLine_38 ⟨⟨G, hG⟩, cM_req_y (by decide) ⟨rfl, ifF (by decide) (p65_1 c2)⟩⟩
    · rcases nm_dec T n x.1 3 with c3 | c3
      · have ev : lnV T n x.1 = 2 := by unfold lnV; rw [nmB_f c1, nmB_f c2, nmB_t c3]; rfl
        rw [ev]
        refine ifF (by decide) (ifF (by decide) (b_Mo_readLine_21 ⟨⟨G, hG⟩, cM_req_y (by decide) ⟨rfl, ifT rfl ⟨G, hG, _, g12, ifB (fun c => ?_) (fun c => ?_)⟩⟩⟩))
        · exact b_Mo_readLine_38 ⟨⟨G, hG⟩, cM_req_y (by decide) ⟨rfl, ifF (by decide) (p65_2 c2 c3 (b01_0 c))⟩⟩
        · have hs1 : mS (zU (zU G 10 (.int 4)) 11 (.int (nI (tkF T n x.1)))) T n (.inl (4, tkF T n x.1)) := ⟨rfl, Or.inr (Or.inr (Or.inr rfl)), rfl⟩
          refine ⟨⟨G, hG⟩, cM_req_n hG g10 hk.2.1 ⟨rfl, ifF (by decide) (cM_line65f (zP_same _ _ _) hs1 (flt _ _ ?_ ((gT2.zU (by decide)).trans (gT2.zU (by decide))) hs1))⟩⟩
          unfold lnP lmP
          rw [nmB_f c2, nmB_t c3, b01_n c]
          rfl
      · rcases nm_dec T n x.1 4 with c4 | c4
        · have ev : lnV T n x.1 = 3 := by unfold lnV; rw [nmB_f c1, nmB_f c2, nmB_f c3, nmB_t c4]; rfl
          rw [ev]
          refine ifF (by decide) (ifF (by decide) (b_Mo_readLine_21 ⟨⟨G, hG⟩, cM_req_y (by decide) ⟨rfl, ifF (by decide) ?_⟩⟩))
          refine b_Mo_readLine_38 ⟨⟨G, hG⟩, cM_req_y (by decide) ⟨rfl, ifT rfl ⟨G, hG, _, g13, ifB (fun c => p65_3 c2 c3 c4 (b01_0 c)) (fun c => twice 3 0 ?_)⟩⟩⟩
          unfold lnP lsP
          rw [nmB_f c2, nmB_f c3, nmB_t c4, b01_n c]
          rfl
        · have ev : lnV T n x.1 = -4 := by unfold lnV; rw [nmB_f c1, nmB_f c2, nmB_f c3, nmB_f c4]; rfl
          have ef : lnP T n x = .inl (2, tkF T n x.1) := by unfold lnP; rw [nmB_f c2, nmB_f c3, nmB_f c4]; rfl
          rw [ev]
          exact ifT rfl (bad (-4) (by decide) (by decide) ef)
end C
