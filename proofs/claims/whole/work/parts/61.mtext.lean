/-! The Model: the whole text -/
def gT3 (G G' : Nat → Value) : Prop := ∀ k, k < 5 ∨ 13 < k → G' k = G k
section C
variable {d : Nat} {e : Nat × Nat} {h : zH} {Q : zQ} {G : Nat → Value} {T S : Nat → Int32} {n N : Nat} {l q : Int32}
/-- the state is taken from the draft -/
theorem cM_text136 {G1 : Nat → Value} {n' l' q' : Int32} {S' : Nat → Int32} {N' : Nat} (hN' : n' = nI N') (hN7 : N' ≤ 7) (hG : h.2 139 = zO 10 G1) (hR : mR G1) (hs : ∃ f, h.2 140 = zI 0 115 f) (hm : mfA h n' l' q' S') (hk : ∃ k, h.2 143 = zI 1 2 k)
    (K : ∀ h', msA h' n' l' q' S' → (∃ k, h'.2 143 = zI 1 2 k ∧ k 0 = 0 ∧ k 1 = 0) → zFr (fun z => z = 140 ∨ z = 143) h h' → Q (some (.int (nI (cnA S' N')))) h') : zW (d + 4) m_Mo_text e 136 [.ref 139, .int 0] [] h Q := by
  obtain ⟨f, hf, hf0, hf1, hf2, hf3⟩ := hm
  obtain ⟨s0, hs0⟩ := hs
  obtain ⟨k0, hk0⟩ := hk
  have loop : ∀ j i (s : Nat → Int32), i + j = 115 → (∀ k, k < i → s k = f k) → zW (d + 4) m_Mo_text e 136 [.ref 139, .int (nI i)] [] (zP h 140 (zI 0 115 s)) Q := by
    intro j
    induction j with
    | zero =>
      intro i s hj hi
      have : i = 115 := by omega
      subst this
      have hG1 : (zP h 140 (zI 0 115 s)).2 139 = zO 10 G1 := (zP_ne _ _ (by decide)).trans hG
      refine b_Mo_text_136 (ifT (show nI 115 ≤ nI 115 from Int32.le_refl _) ⟨G1, hG1, _, hR.2.2.2.1, by decide, 2, k0, (zP_ne _ _ (by decide)).trans hk0, zIn_nI (show 0 < 2 by decide) (by decide), ?_⟩)
      rintro h5 rfl
      refine ⟨G1, (zP_ne _ _ (by decide)).trans hG1, _, hR.2.2.2.1, by decide, 2, _, zP_same _ _ _, zIn_nI (show 1 < 2 by decide) (by decide), ?_⟩
      rintro h10 rfl
      rw [zP_zP]
      have hm2 : msA (zP (zP h 140 (zI 0 115 s)) 143 (zI 1 2 (zU (zU k0 (0 : Int32).toNatClampNeg 0) (1 : Int32).toNatClampNeg 0))) n' l' q' S' := ⟨s, (zP_ne _ _ (by decide)).trans (zP_same _ _ _), by rw [hi 0 (by omega)]; exact hf0, by rw [hi 1 (by omega)]; exact hf1, by rw [hi 2 (by omega)]; exact hf2, fun k hk => by rw [hi (3 + k) (by omega)]; exact hf3 k hk⟩
      have hG2 : (zP (zP h 140 (zI 0 115 s)) 143 (zI 1 2 (zU (zU k0 (0 : Int32).toNatClampNeg 0) (1 : Int32).toNatClampNeg 0))).2 139 = zO 10 G1 := (zP_ne _ _ (by decide)).trans hG1
      rw [hN'] at hm2
      refine ⟨⟨_, hG2⟩, cM_stamps hG2 hR hm2 hN7 ⟨_, rfl, K _ (by rw [hN']; exact hm2) ⟨_, zP_same _ _ _, rfl, rfl⟩ ((zFr.put (Or.inl rfl)).trans (zFr.put (Or.inr rfl)))⟩⟩
    | succ j ih =>
      intro i s hj hi
      have hG1 : (zP h 140 (zI 0 115 s)).2 139 = zO 10 G1 := (zP_ne _ _ (by decide)).trans hG
      refine b_Mo_text_136 (ifF (show ¬ nI 115 ≤ nI i from nI_ge (by omega) (by decide)) ⟨G1, hG1, _, hR.1, G1, hG1, _, hR.2.1, 115, f, (zP_ne _ _ (by decide)).trans hf, zIn_nI (by omega) (by decide), 115, s, zP_same _ _ _, zIn_nI (by omega) (by decide), ?_⟩)
      rintro h23 rfl
      rw [zP_zP, nI_1, nI_clamp (by omega)]
      refine ih (i + 1) _ (by omega) (fun k hk => ?_)
      by_cases ek : k = i
      · rw [ek, zU_same]
      · rw [zU_ne _ _ ek]; exact hi k (by omega)
  have := loop 115 0 s0 rfl (fun k hk => by omega)
  rw [zP_self hs0] at this
  exact this
theorem cM_text (hV : mV h G n T) (hn : n ≤ 300) (hT : TpK n T) (hm : msA h (nI N) l q S) (hN : N ≤ 7) (hl : 0 ≤ l ∧ l ≤ 99) (hq : 2 ≤ q ∧ q ≤ 6) (hd : ∃ g, h.2 141 = zI 0 115 g) (hkp : ∃ k, h.2 143 = zI 1 2 k)
    (K0 : ∀ f h' G', txP T n l q = .inl f → h'.2 139 = zO 10 G' → gT3 G G' → G' 5 = .int 0 → G' 10 = .int f.1 → (∃ g, h'.2 141 = zI 0 115 g) → zFr mfB h h' → Q (some (.int (-10 - nI f.2))) h')
    (K1 : ∀ y h' G' N', txP T n l q = .inr y → y.2.1.1 = nI N' → N' ≤ 7 → h'.2 139 = zO 10 G' → gT3 G G' → G' 5 = .int 0 → G' 10 = .int 0 → (∃ g, h'.2 141 = zI 0 115 g) → msA h' y.2.1.1 y.2.1.2.1 y.2.1.2.2 y.2.2.1 → (∃ k, h'.2 143 = zI 1 2 k ∧ k 0 = 0 ∧ k 1 = 0) → zFr (fun z => z = 139 ∨ z = 140 ∨ z = 141 ∨ z = 143) h h' → Q (some (.int (nI (cnA y.2.2.1 N')))) h') : zW (d + 6) m_Mo_text e 0 [.ref 139, zD] [] h Q := by
  have hG := hV.1
  have hR := hV.2.1
  have g1 : G 1 = .ref 141 := hR.2.1
  have p93f : ∀ h1 (G1 : Nat → Value) f, h1.2 139 = zO 10 G1 → gT2 G G1 → mS G1 T n (.inl f) → txP T n l q = .inl f → (∃ g, h1.2 141 = zI 0 115 g) → zFr mfB h h1 → zW (d + 6) m_Mo_text e 93 [.ref 139, zD] [] h1 Q := fun h1 G1 f hG1 r1 hs1 ef hd1 hf1 => by
    refine b_Mo_text_93 ⟨G1, hG1, _, hs1.1, ifF hs1.2.1.ne ⟨G1, hG1, ?_⟩⟩
    rintro h15 rfl
    refine ⟨_, zP_same _ _ _, _, hs1.1, ifF hs1.2.1.pos ⟨_, zP_same _ _ _, _, hs1.2.2, ?_⟩⟩
    exact K0 f _ _ ef (zP_same _ _ _) (fun k hk => by rw [zU_ne _ _ (by omega)]; exact r1 k (by omega)) rfl hs1.1 (hd1.imp fun _ w => (zP_ne _ _ (by decide)).trans w) (hf1.trans fr139)
  have p93 : ∀ k h1 (x : rdS), n < x.1 + k → rdI x → mO h1 G T n (.inr x) → txP T n l q = rdP T n k x → zFr mfB h h1 → zW (d + 6) m_Mo_text e 93 [.ref 139, zD] [] h1 Q := by
    intro k
    induction k with
    | zero =>
      intro h1 x hk hI ho
      obtain ⟨G1, hG1, r1, hs1, -⟩ := ho
      have := hs1.1
      omega
    | succ k ih =>
      intro h1 x hk hI ho ef hf1
      obtain ⟨G1, hG1, r1, hs1, g12, g13, hm1⟩ := ho
      have hd1 : ∃ g, h1.2 141 = zI 0 115 g := hm1.imp fun _ w => w.1
      cases hx : tkX T n x.1 with
      | true =>
        refine p93f h1 G1 (1, tkF T n x.1) hG1 r1 (mS_x hs1 hx) ?_ hd1 hf1
        rw [ef]
        unfold rdP
        rw [hx]
        rfl
      | false =>
        obtain ⟨g10, hk1, -⟩ := mS_g hs1 hx
        refine b_Mo_text_93 ⟨G1, hG1, _, g10, ifT rfl ⟨G1, hG1, _, hk1.2.2, ifB (fun c => ⟨G1, hG1, ?_⟩) (fun c => ⟨⟨G1, hG1⟩, cM_readLine ⟨hG1, r1.R hR, (r1 5 (by omega)).trans hV.2.2.1, hV.2.2.2.fr hf1 (by decide)⟩ hn hT hI hs1 hx g12 g13 hm1 (fun h2 ho2 hf2 => ⟨rfl, ?_⟩)⟩)⟩⟩
        · have ex : txP T n l q = .inr x := by
            rw [ef]
            unfold rdP
            rw [hx, c]
            rfl
          rintro h6 rfl
          obtain ⟨⟨N', hN1, hN7, hNe⟩, -⟩ := hI
          refine ⟨_, zP_same _ _ _, _, g10, ifT (by decide) (cM_text136 hNe hN7 (zP_same _ _ _) (mR_of (r1.R hR) (fun k hk => zU_ne _ _ (by omega))) ?_ (mfp hm1 _) ?_ (fun h2 hm2 hk2 hf2 => ?_))⟩
          · obtain ⟨g, hg, -⟩ := hm
            exact ⟨g, (zP_ne _ _ (by decide)).trans ((hf1 _ (by decide)).trans hg)⟩
          · obtain ⟨g, hg⟩ := hkp
            exact ⟨g, (zP_ne _ _ (by decide)).trans ((hf1 _ (by decide)).trans hg)⟩
          · refine K1 x h2 (zU G1 5 (.int 0)) N' ex hNe hN7 ((hf2 _ (by decide)).trans (zP_same _ _ _)) (fun k hk => by rw [zU_ne _ _ (by omega)]; exact r1 k (by omega)) rfl g10 (hd1.imp fun _ w => (hf2 _ (by decide)).trans ((zP_ne _ _ (by decide)).trans w)) hm2 hk2 ?_
            exact ((hf1.sub (fun a w => by rcases w with w | w; exact Or.inl w; exact Or.inr (Or.inr (Or.inl w)))).trans (zFr.put (Or.inl rfl))).trans (hf2.sub (fun a w => by rcases w with w | w; exact Or.inr (Or.inl w); exact Or.inr (Or.inr (Or.inr w))))
        · have e1 : rdP T n (k + 1) x = match lnP T n x with
            | .inl f => .inl f
            | .inr y => rdP T n k y := by
            show (if tkX T n x.1 = true then _ else if tkK T n x.1 = 0 then _ else _) = _
            rw [if_neg (by rw [hx]; decide), if_neg c]
            cases lnP T n x <;> rfl
          rw [e1] at ef
          cases e2 : lnP T n x with
          | inl f =>
            rw [e2] at ef ho2
            obtain ⟨G2, hG2, r2, hs2, hd2⟩ := ho2
            exact p93f h2 G2 f hG2 (r1.trans r2) hs2 ef hd2 (hf1.trans hf2)
          | inr y =>
            rw [e2] at ef ho2
            obtain ⟨i1, i2, i3⟩ := lnP_inv hI hs1.1 e2
            obtain ⟨G2, hG2, r2, w⟩ := ho2
            exact ih h2 y (by omega) i1 ⟨G2, hG2, r1.trans r2, w⟩ ef (hf1.trans hf2)
  have tail : ∀ h1 (G1 : Nat → Value) f, h1.2 139 = zO 10 G1 → gT2 G G1 → mS G1 T n (.inl f) → txP T n l q = .inl f → (∃ g, h1.2 141 = zI 0 115 g) → zFr mfB h h1 →
      ∃ F32, h1.2 139 = zO 10 F32 ∧ ∃ x33, F32 1 = Value.ref x33 ∧ ((∃ F43, h1.2 139 = zO 10 F43) ∧ zW (d + 5) m_Mo_readNumber h1.1 0 [Value.ref 139, Value.int (1 : Int32), Value.int (7 : Int32), zD] [] h1 (fun r34 h35 => ∃ x36, r34 = some (Value.int x36) ∧ ((∃ n37 f38, h35.2 x33 = zI 0 n37 f38 ∧ zIn (0 : Int32) n37 ∧ ∀ h39, h39 = zP h35 x33 (zI 0 n37 (zU f38 (0 : Int32).toNatClampNeg x36)) → ((∃ F42, h39.2 139 = zO 10 F42) ∧ zW (d + 5) m_Mo_readStop h39.1 0 [Value.ref 139] [] h39 (fun r40 h41 => r40 = none ∧ (zW (d + 6) m_Mo_text e 93 [Value.ref 139, zD] [] h41 Q))))))) := by
    intro h1 G1 f hG1 r1 hs1 ef hd1 hf1
    obtain ⟨g, hg⟩ := hd1
    refine ⟨G1, hG1, _, (r1 1 (by omega)).trans g1, ⟨G1, hG1⟩, cM_rdN_f hG1 hs1 ⟨_, rfl, 115, g, hg, zi0, ?_⟩⟩
    rintro h39 rfl
    have hG2 : (zP h1 141 (zI 0 115 (zU g (0 : Int32).toNatClampNeg 0))).2 139 = zO 10 G1 := (zP_ne _ _ (by decide)).trans hG1
    exact ⟨⟨_, hG2⟩, cM_stop_f hG2 hs1 ⟨rfl, p93f _ G1 f hG2 r1 hs1 ef ⟨_, zP_same _ _ _⟩ (hf1.trans fr141)⟩⟩
  refine b_Mo_text_0 ⟨G, hG, ?_⟩
  rintro h2 rfl
  refine ⟨_, zP_same _ _ _, ?_⟩
  rintro h4 rfl
  rw [zP_zP]
  refine ⟨by decide, _, zP_same _ _ _, ?_⟩
  rintro h6 rfl
  rw [zP_zP]
  refine ⟨by decide, _, zP_same _ _ _, ?_⟩
  rintro h8 rfl
  rw [zP_zP]
  have r0 : gT2 G (zU (zU (zU (zU G 10 (.int 0)) 6 (.int 0)) 12 (.int 0)) 13 (.int 0)) := (((gT2.zU (by decide)).trans (gT2.zU (by decide))).trans (gT2.zU (by decide))).trans (gT2.zU (by decide))
  have hV0 := hV.to2 r0
  obtain ⟨st, hst, st0, st1, st2, st3⟩ := hm
  obtain ⟨dr, hdr⟩ := hd
  have a140 : ∀ z, (zP h 139 z).2 140 = zI 0 115 st := fun z => (zP_ne _ _ (by decide)).trans hst
  have a141 : ∀ z, (zP h 139 z).2 141 = zI 0 115 dr := fun z => (zP_ne _ _ (by decide)).trans hdr
  refine b_Mo_text_20 ⟨_, zP_same _ _ _, _, g1, _, zP_same _ _ _, _, hR.1, 115, st, a140 _, zi1, 115, dr, a141 _, zi1, ?_⟩
  rintro h9 rfl
  refine ⟨_, (zP_ne _ _ (by decide)).trans (zP_same _ _ _), _, g1, _, (zP_ne _ _ (by decide)).trans (zP_same _ _ _), _, hR.1, 115, st, (zP_ne _ _ (by decide)).trans (a140 _), zi2, 115, _, zP_same _ _ _, zi2, ?_⟩
  rintro h18 rfl
  rw [zP_zP]
  refine ⟨_, (zP_ne _ _ (by decide)).trans (zP_same _ _ _), _, g1, cM_empties (zP_same _ _ _) (fun f' hf1 hf2 => ⟨rfl, ?_⟩)⟩
  rw [zP_zP]
  have hG0 : (zP (zP h 139 (zO 10 (zU (zU (zU (zU G 10 (.int 0)) 6 (.int 0)) 12 (.int 0)) 13 (.int 0)))) 141 (zI 0 115 f')).2 139 = zO 10 (zU (zU (zU (zU G 10 (.int 0)) 6 (.int 0)) 12 (.int 0)) 13 (.int 0)) := (zP_ne _ _ (by decide)).trans (zP_same _ _ _)
  have hVd : mV (zP (zP h 139 (zO 10 (zU (zU (zU (zU G 10 (.int 0)) 6 (.int 0)) 12 (.int 0)) 13 (.int 0)))) 141 (zI 0 115 f')) (zU (zU (zU (zU G 10 (.int 0)) 6 (.int 0)) 12 (.int 0)) 13 (.int 0)) n T := ⟨hG0, hV0.2.1, hV0.2.2.1, hV0.2.2.2.fr (zFr.put (A := fun z => z = 141) rfl) (by decide)⟩
  have hmd : ∀ c : Int32, f' 0 = c → mfA (zP (zP h 139 (zO 10 (zU (zU (zU (zU G 10 (.int 0)) 6 (.int 0)) 12 (.int 0)) 13 (.int 0)))) 141 (zI 0 115 f')) c l q (fun _ => -4) := fun c hc => ⟨f', zP_same _ _ _, hc, by rw [hf1 1 (by decide)]; exact st1, by rw [hf1 2 (by decide)]; exact st2, hf2⟩
  have fr0 : zFr mfB h (zP (zP h 139 (zO 10 (zU (zU (zU (zU G 10 (.int 0)) 6 (.int 0)) 12 (.int 0)) 13 (.int 0)))) 141 (zI 0 115 f')) := fr139.trans fr141
  generalize hhd : zP (zP h 139 (zO 10 (zU (zU (zU (zU G 10 (.int 0)) 6 (.int 0)) 12 (.int 0)) 13 (.int 0)))) 141 (zI 0 115 f') = hb at hG0 hVd hmd fr0 ⊢
  have hdb : ∃ g, hb.2 141 = zI 0 115 g := (hmd _ rfl).imp fun _ w => w.1
  have g12 : (zU (zU (zU (zU G 10 (.int 0)) 6 (.int 0)) 12 (.int 0)) 13 (.int 0)) 12 = .int 0 := rfl
  have g13 : (zU (zU (zU (zU G 10 (.int 0)) 6 (.int 0)) 12 (.int 0)) 13 (.int 0)) 13 = .int 0 := rfl
  have g6 : (zU (zU (zU (zU G 10 (.int 0)) 6 (.int 0)) 12 (.int 0)) 13 (.int 0)) 6 = .int (nI 0) := rfl
  have g10 : (zU (zU (zU (zU G 10 (.int 0)) 6 (.int 0)) 12 (.int 0)) 13 (.int 0)) 10 = .int 0 := rfl
  generalize zU (zU (zU (zU G 10 (.int 0)) 6 (.int 0)) 12 (.int 0)) 13 (.int 0) = Ga at *
  clear hhd
  refine ⟨⟨_, hG0⟩, cM_reads (p := 0) hG0 hVd.2.1 hVd.2.2.1 g6 g10 hVd.2.2.2 hn hT (Nat.zero_le _) (fun G1 r1 hk1 hs1 => ⟨rfl, ⟨_, zP_same _ _ _⟩, ?_⟩)⟩
  have hV1 := hVd.to r1
  have hdb1 : ∀ z, ∃ g, (zP hb 139 z).2 141 = zI 0 115 g := fun z => hdb.imp fun _ w => (zP_ne _ _ (by decide)).trans w
  refine cM_lineNow hV1.1 hV1.2.1 hV1.2.2.1 hk1 hV1.2.2.2 hn (Nat.zero_le _) ⟨_, rfl, ?_⟩
  have he := tkE_le (T := T) (Nat.zero_le n)
  cases hx : tkX T n 0 with
  | true =>
    have hs1' := mS_x hs1 hx
    have ef : txP T n l q = .inl (1, tkF T n 0) := by unfold txP hdP; rw [hx]; rfl
    refine ifB (fun c => ⟨⟨_, zP_same _ _ _⟩, cM_req_y (by decide) ⟨rfl, ⟨_, zP_same _ _ _⟩, cM_reads_f (zP_same _ _ _) hs1'.1 hs1'.2.1 ⟨rfl, ?_⟩⟩⟩) (fun c => ⟨⟨_, zP_same _ _ _⟩, cM_req_f (zP_same _ _ _) hs1'.1 hs1'.2.1.ne ⟨rfl, ⟨_, zP_same _ _ _⟩, cM_reads_f (zP_same _ _ _) hs1'.1 hs1'.2.1 ⟨rfl, ?_⟩⟩⟩)
    · exact tail _ G1 _ (zP_same _ _ _) (r0.trans r1.to2) hs1' ef (hdb1 _) (fr0.trans fr139)
    · exact tail _ G1 _ (zP_same _ _ _) (r0.trans r1.to2) hs1' ef (hdb1 _) (fr0.trans fr139)
  | false =>
    obtain ⟨g101, -, -⟩ := mS_g hs1 hx
    rcases nm_dec T n 0 1 with c1 | c1
    · have ev : lnV T n 0 = 0 := by unfold lnV; rw [if_pos (nmB_t c1)]
      rw [ev]
      refine ifT rfl ⟨⟨_, zP_same _ _ _⟩, cM_req_y (by decide) ⟨rfl, ⟨_, zP_same _ _ _⟩, cM_reads (p := tkE T n 0) hV1.1 hV1.2.1 hV1.2.2.1 hk1.1 g101 hV1.2.2.2 hn hT he.2 (fun G2 r2 _ hs2 => ⟨rfl, _, zP_same _ _ _, _, (r2 1 (by omega)).trans hV1.2.1.2.1, ⟨_, zP_same _ _ _⟩, cM_rdN (hV1.to r2) hn hT hs2 (fun v p1 e1 G3 r3 hs3 => ⟨_, rfl, ?_⟩) (fun c w e1 G3 r3 hs3 => ⟨_, rfl, ?_⟩)⟩)⟩⟩
      · rw [zP_zP, zP_zP]
        have ef : hdP T n l q = sgO T n p1 (0, (v, l, q), fun _ => -4, false, false) := by unfold hdP; rw [hx, nmB_t c1, e1]; rfl
        obtain ⟨f, hf, hf0, hf1, hf2, hf3⟩ := mfp (hmd _ rfl) (zO 10 G3)
        refine ⟨115, f, hf, zi0, ?_⟩
        rintro h39 rfl
        have r13 := (r1.trans r2).trans r3
        have hG3 : (zP (zP hb 139 (zO 10 G3)) 141 (zI 0 115 (zU f (0 : Int32).toNatClampNeg v))).2 139 = zO 10 G3 := (zP_ne _ _ (by decide)).trans (zP_same _ _ _)
        refine ⟨⟨_, hG3⟩, cM_stop (y := (0, (v, l, q), fun _ => -4, false, false)) ⟨hG3, r13.R hVd.2.1, (r13 5 (by omega)).trans hVd.2.2.1, (mtp hVd.2.2.2 _).fr (zFr.put (A := fun z => z = 141) rfl) (by decide)⟩ hn hT hs3 (fun G4 r4 hs4 => ⟨rfl, ?_⟩)⟩
        have hm4 : mfA (zP (zP (zP hb 139 (zO 10 G3)) 141 (zI 0 115 (zU f (0 : Int32).toNatClampNeg v))) 139 (zO 10 G4)) v l q (fun _ => -4) := by
          refine mfp ⟨_, zP_same _ _ _, ?_, ?_, ?_, fun k hk => ?_⟩ _
          · rfl
          · exact hf1
          · exact hf2
          · rw [show (0 : Int32).toNatClampNeg = 0 from rfl, zU_ne _ _ (by omega)]; exact hf3 k hk
        have r14 := r13.trans r4
        have ho := mO_sg (G := G) (zP_same _ _ _) (r0.trans r14.to2) hs4 ((r14 12 (by omega)).trans g12) ((r14 13 (by omega)).trans g13) hm4
        rw [← ef] at ho
        have frr := ((fr0.trans (fr139 (c := zO 10 G3))).trans (fr141 (c := zI 0 115 (zU f (0 : Int32).toNatClampNeg v)))).trans (fr139 (c := zO 10 G4))
        cases e2 : hdP T n l q with
        | inl f =>
          rw [e2] at ho
          obtain ⟨G5, hG5, r5, hs5, hd5⟩ := ho
          exact p93f _ G5 f hG5 r5 hs5 (by unfold txP; rw [e2]) hd5 frr
        | inr y =>
          rw [e2] at ho
          obtain ⟨i1, i2⟩ := hdP_inv hl hq e2
          exact p93 301 _ y (by omega) i1 ho (by unfold txP; rw [e2]) frr
      · rw [zP_zP, zP_zP]
        have ef : txP T n l q = .inl (c, w) := by unfold txP hdP; rw [hx, nmB_t c1, e1]; rfl
        obtain ⟨g, hg⟩ := hdb1 (zO 10 G3)
        refine ⟨115, g, hg, zi0, ?_⟩
        rintro h39 rfl
        have hG3 : (zP (zP hb 139 (zO 10 G3)) 141 (zI 0 115 (zU g (0 : Int32).toNatClampNeg 0))).2 139 = zO 10 G3 := (zP_ne _ _ (by decide)).trans (zP_same _ _ _)
        exact ⟨⟨_, hG3⟩, cM_stop_f hG3 hs3 ⟨rfl, p93f _ G3 _ hG3 (r0.trans ((r1.trans r2).trans r3).to2) hs3 ef ⟨_, zP_same _ _ _⟩ ((fr0.trans fr139).trans fr141)⟩⟩
    · have ev : ¬ lnV T n 0 = 0 := by
        unfold lnV
        rw [nmB_f c1, if_neg (by decide)]
        split
        · decide
        · split
          · decide
          · split <;> decide
      have ef : txP T n l q = .inl (2, tkF T n 0) := by unfold txP hdP; rw [hx, nmB_f c1]; rfl
      have hs2 : mS (zU (zU G1 10 (.int 2)) 11 (.int (nI (tkF T n 0)))) T n (.inl (2, tkF T n 0)) := ⟨rfl, Or.inr (Or.inl rfl), rfl⟩
      refine ifF ev ⟨⟨_, zP_same _ _ _⟩, cM_req_n (zP_same _ _ _) g101 hk1.2.1 ⟨rfl, ⟨_, zP_same _ _ _⟩, cM_reads_f (zP_same _ _ _) hs2.1 hs2.2.1 ⟨rfl, ?_⟩⟩⟩
      rw [zP_zP]
      exact tail _ _ _ (zP_same _ _ _) (r0.trans ((r1.to2.trans (gT2.zU (by decide))).trans (gT2.zU (by decide)))) hs2 ef (hdb1 _) (fr0.trans fr139)
end C
