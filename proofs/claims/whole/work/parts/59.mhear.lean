/-! The Model: a line of the text -/
def mfA (h : zH) (n l q : Int32) (S : Nat → Int32) : Prop := ∃ f, h.2 141 = zI 0 115 f ∧ f 0 = n ∧ f 1 = l ∧ f 2 = q ∧ ∀ k, k < 112 → f (3 + k) = S k
theorem mfA.fr {A : Nat → Prop} {h h' : zH} {n l q : Int32} {S : Nat → Int32} (m : mfA h n l q S) (f : zFr A h h') (hA : ¬ A 141) : mfA h' n l q S := by
  obtain ⟨g, hg, r⟩ := m
  exact ⟨g, by rw [f _ hA]; exact hg, r⟩
theorem mfA.put {h : zH} {n l q : Int32} {S : Nat → Int32} {r b : Nat} {v : Int32} (hm : mfA h n l q S) (hr : r < 7) (hb : b < 16) : ∃ f, h.2 141 = zI 0 115 f ∧ mfA (zP h 141 (zI 0 115 (zU f (3 + (16 * r + b)) v))) n l q (zU S (16 * r + b) v) := by
  obtain ⟨f, f0, f1, f2, f3, f4⟩ := hm
  refine ⟨f, f0, _, zP_same _ _ _, by rw [zU_ne _ _ (by omega)]; exact f1, by rw [zU_ne _ _ (by omega)]; exact f2, by rw [zU_ne _ _ (by omega)]; exact f3, fun k hk => ?_⟩
  by_cases ek : k = 16 * r + b
  · rw [ek, zU_same, zU_same]
  · rw [zU_ne _ _ (by omega), zU_ne _ _ ek]; exact f4 k hk
theorem mfp {h : zH} {n l q : Int32} {S : Nat → Int32} (m : mfA h n l q S) (z : zCell) : mfA (zP h 139 z) n l q S := m.fr (zFr.put (A := fun z => z = 139) rfl) (by decide)
abbrev mfB (z : Nat) : Prop := z = 139 ∨ z = 141
theorem fr139 {h : zH} {c : zCell} : zFr mfB h (zP h 139 c) := zFr.put (Or.inl rfl)
theorem fr141 {h : zH} {c : zCell} : zFr mfB h (zP h 141 c) := zFr.put (Or.inr rfl)
section P
variable {T : Nat → Int32} {n : Nat} {x : rdS} {p1 p2 p3 b r : Nat} {t : Int32} {f : rdF}
theorem heP_1 (e1 : nmP T n 0 15 (tkE T n x.1) = .inl f) : heP T n x = .inl f := by unfold heP; rw [e1]
theorem heP_2 {bv : Int32} (e1 : nmP T n 0 15 (tkE T n x.1) = .inr (bv, p1)) (e2 : nmP T n 0 (x.2.1.1 - 1) p1 = .inl f) : heP T n x = .inl f := by
  unfold heP
  rw [e1]
  show (match nmP T n 0 (x.2.1.1 - 1) p1 with
    | .inl f => Sum.inl f
    | .inr (r, p2) => _) = _
  rw [e2]
theorem heP_3 (hb : b < 2 ^ 31) (hr : r < 2 ^ 31) (e1 : nmP T n 0 15 (tkE T n x.1) = .inr (nI b, p1)) (e2 : nmP T n 0 (x.2.1.1 - 1) p1 = .inr (nI r, p2)) (c : ¬ x.2.2.1 (16 * r + b) = -4) : heP T n x = .inl (4, tkF T n p1) := by
  unfold heP
  rw [e1]
  show (match nmP T n 0 (x.2.1.1 - 1) p1 with
    | .inl f => Sum.inl f
    | .inr (r, p2) => _) = _
  rw [e2]
  simp only [nI_clamp hr, nI_clamp hb, c, if_false]
theorem heP_4 (hb : b < 2 ^ 31) (hr : r < 2 ^ 31) (e1 : nmP T n 0 15 (tkE T n x.1) = .inr (nI b, p1)) (e2 : nmP T n 0 (x.2.1.1 - 1) p1 = .inr (nI r, p2)) (c : x.2.2.1 (16 * r + b) = -4) (e3 : nmP T n 0 9999 p2 = .inl f) : heP T n x = .inl f := by
  unfold heP
  rw [e1]
  show (match nmP T n 0 (x.2.1.1 - 1) p1 with
    | .inl f => Sum.inl f
    | .inr (r, p2) => _) = _
  rw [e2]
  simp only [nI_clamp hr, nI_clamp hb, c, if_true, e3]
theorem heP_5 (hb : b < 2 ^ 31) (hr : r < 2 ^ 31) (e1 : nmP T n 0 15 (tkE T n x.1) = .inr (nI b, p1)) (e2 : nmP T n 0 (x.2.1.1 - 1) p1 = .inr (nI r, p2)) (c : x.2.2.1 (16 * r + b) = -4) (e3 : nmP T n 0 9999 p2 = .inr (t, p3)) : heP T n x = sgO T n p3 (0, x.2.1, zU x.2.2.1 (16 * r + b) t, x.2.2.2) := by
  unfold heP
  rw [e1]
  show (match nmP T n 0 (x.2.1.1 - 1) p1 with
    | .inl f => Sum.inl f
    | .inr (r, p2) => _) = _
  rw [e2]
  simp only [nI_clamp hr, nI_clamp hb, c, if_true, e3]
theorem sgO_x {y : rdS} (hx : tkX T n p3 = true) : sgO T n p3 y = .inl (1, tkF T n p3) := by unfold sgO sgP; rw [if_pos hx]
end P
section C
variable {d : Nat} {e : Nat × Nat} {h : zH} {Q : zQ} {G G' : Nat → Value} {T : Nat → Int32} {n p : Nat} {x y : rdS}
theorem cM_hear54f {f : rdF} {a b : Int32} (hG : h.2 139 = zO 10 G) (hs : mS G T n (.inl f)) (K : Q none h) : zW (d + 4) m_Mo_readHear e 54 [.ref 139, .int a, .int b, zD] [] h Q :=
  b_Mo_readHear_54 ⟨⟨G, hG⟩, cM_reads_f hG hs.1 hs.2.1 ⟨rfl, ⟨G, hG⟩, cM_rdN_f hG hs ⟨_, rfl, G, hG, _, hs.1, ifF hs.2.1.ne K⟩⟩⟩
theorem cM_readHear (hV : mV h G n T) (hn : n ≤ 300) (hT : TpK n T) (hI : rdI x) (hs : mS G T n (.inr (tkE T n x.1))) (hm : mfA h x.2.1.1 x.2.1.2.1 x.2.1.2.2 x.2.2.1)
    (K0 : ∀ f G', heP T n x = .inl f → gTf G G' → mS G' T n (.inl f) → Q none (zP h 139 (zO 10 G')))
    (K1 : ∀ S p3 G' h', heP T n x = sgO T n p3 (0, x.2.1, S, x.2.2.2) → gTf G G' → mS G' T n (.inr p3) → h'.2 139 = zO 10 G' → mfA h' x.2.1.1 x.2.1.2.1 x.2.1.2.2 S → zFr mfB h h' → Q none h') : zW (d + 4) m_Mo_readHear e 0 [.ref 139, zD, zD, zD] [] h Q := by
  obtain ⟨⟨N, hN1, hN7, hNe⟩, -⟩ := hI
  have hG := hV.1
  have g1 : G 1 = .ref 141 := hV.2.1.2.1
  refine b_Mo_readHear_0 ⟨⟨G, hG⟩, cM_rdN hV hn hT hs (fun b p1 e1 G1 r1 hs1 => ⟨_, rfl, ?_⟩) (fun c w e1 G1 r1 hs1 => ⟨_, rfl, ?_⟩)⟩
  · have hV1 := hV.to r1
    obtain ⟨f, hf, hf0, hf1, hf2, hf3⟩ := mfp hm (zO 10 G1)
    obtain ⟨bj, hbj, rfl⟩ := nI_of2 (M := 15) (n := 15) rfl (nmP_r e1).1 (nmP_b e1).2
    refine ⟨_, zP_same _ _ _, _, (r1 1 (by omega)).trans g1, 115, f, hf, zi0, ⟨_, zP_same _ _ _⟩, ?_⟩
    rw [show (0 : Int32).toNatClampNeg = 0 from rfl, hf0]
    refine cM_num (zP_same _ _ _) hs1 (fun r p2 e2 => ⟨_, rfl, ?_⟩) (fun c w e2 G2 r2 hs2 => ⟨_, rfl, ?_⟩)
    · have e2' := e2
      rw [hNe, n1_sub hN1] at e2'
      obtain ⟨rj, hrj, rfl⟩ := nI_of2 (M := nI (N - 1)) (n := N - 1) (nI_toInt (by omega)) (nmP_r e2').1 (nmP_b e2').2
      obtain ⟨-, -, q1, q2, -, -⟩ := nmP_r e2
      obtain ⟨g10, hk, -⟩ := mS_g hs1 q2
      refine ⟨_, zP_same _ _ _, _, g10, ifT rfl ⟨_, zP_same _ _ _, _, (r1 1 (by omega)).trans g1, cM_at ⟨_, rfl, 115, f, hf, zIn_nI (by omega) (by decide), ?_⟩⟩⟩
      rw [nI_clamp (by omega), hf3 _ (by omega)]
      refine ifB (fun c => ⟨⟨_, zP_same _ _ _⟩, cM_req_y (by decide) ⟨rfl, ?_⟩⟩) (fun c => ⟨⟨_, zP_same _ _ _⟩, cM_req_n (zP_same _ _ _) g10 hk.2.1 ⟨rfl, ?_⟩⟩)
      · refine b_Mo_readHear_54 ⟨⟨_, zP_same _ _ _⟩, cM_reads (p := p2) hV1.1 hV1.2.1 hV1.2.2.1 (by rw [q1]; exact hk.1) g10 hV1.2.2.2 hn hT (nmP_le hs1.1 e2).2 (fun G2 r2 _ hs2 => ⟨rfl, ⟨_, zP_same _ _ _⟩, cM_rdN (hV1.to r2) hn hT hs2 (fun t p3 e3 G3 r3 hs3 => ⟨_, rfl, ?_⟩) (fun c2 w e3 G3 r3 hs3 => ⟨_, rfl, ?_⟩)⟩)⟩
        · rw [zP_zP, zP_zP]
          have e4 := heP_5 (by omega) (by omega) e1 e2 c e3
          have r13 := (r1.trans r2).trans r3
          cases hx : tkX T n p3 with
          | true =>
            have hs3' := mS_x hs3 hx
            rw [sgO_x hx] at e4
            exact ⟨_, zP_same _ _ _, _, hs3'.1, ifF hs3'.2.1.ne (K0 _ G3 e4 r13 hs3')⟩
          | false =>
            obtain ⟨g103, -, -⟩ := mS_g hs3 hx
            obtain ⟨f4, hf4, hm4⟩ := (mfp hm (zO 10 G3)).put (v := t) (show rj < 7 by omega) (show bj < 16 by omega)
            refine ⟨_, zP_same _ _ _, _, g103, ifT rfl ⟨_, zP_same _ _ _, _, (r13 1 (by omega)).trans g1, cM_at ⟨_, rfl, 115, f4, hf4, zIn_nI (by omega) (by decide), ?_⟩⟩⟩
            rintro h15 rfl
            rw [nI_clamp (by omega)]
            exact K1 _ p3 G3 _ e4 r13 hs3 ((zP_ne _ _ (by decide)).trans (zP_same _ _ _)) hm4 (fr139.trans fr141)
        · rw [zP_zP, zP_zP]
          have e4 := heP_4 (by omega) (by omega) e1 e2 c e3
          exact ⟨_, zP_same _ _ _, _, hs3.1, ifF hs3.2.1.ne (K0 _ G3 e4 ((r1.trans r2).trans r3) hs3)⟩
      · have e4 := heP_3 (by omega) (by omega) e1 e2 c
        have hs2 : mS (zU (zU G1 10 (.int 4)) 11 (.int (nI (tkF T n p1)))) T n (.inl (4, tkF T n p1)) := ⟨rfl, Or.inr (Or.inr (Or.inr rfl)), rfl⟩
        refine cM_hear54f (zP_same _ _ _) hs2 ?_
        rw [zP_zP]
        exact K0 _ _ e4 ((r1.trans (gTf.zU (by decide))).trans (gTf.zU (by decide))) hs2
    · rw [zP_zP]
      refine ⟨_, zP_same _ _ _, _, hs2.1, ifF hs2.2.1.ne (cM_hear54f (zP_same _ _ _) hs2 (K0 _ G2 (heP_2 e1 e2) (r1.trans r2) hs2))⟩
  · obtain ⟨f, hf, hf0, hf1, hf2, hf3⟩ := mfp hm (zO 10 G1)
    refine ⟨_, zP_same _ _ _, _, (r1 1 (by omega)).trans g1, 115, f, hf, zi0, ⟨_, zP_same _ _ _⟩, cM_num_f (zP_same _ _ _) hs1 ⟨_, rfl, _, zP_same _ _ _, _, hs1.1, ifF hs1.2.1.ne (cM_hear54f (zP_same _ _ _) hs1 (K0 _ G1 (heP_1 e1) r1 hs1))⟩⟩
end C
