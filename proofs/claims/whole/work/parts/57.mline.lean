/-! The Model: a token, the names -/
noncomputable def lnV (T : Nat → Int32) (n p : Nat) : Int32 := if nmB T n p 1 = true then 0 else if nmB T n p 2 = true then 1 else if nmB T n p 3 = true then 2 else if nmB T n p 4 = true then 3 else -4
section C
variable {d : Nat} {e : Nat × Nat} {h : zH} {Q : zQ} {G : Nat → Value} {T : Nat → Int32} {n p : Nat}
theorem cM_reads (hG : h.2 139 = zO 10 G) (hR : mR G) (g5 : G 5 = .int (nI n)) (g6 : G 6 = .int (nI p)) (g10 : G 10 = .int 0) (ht : mtA h n T) (hn : n ≤ 300) (hT : TpK n T) (hp : p ≤ n)
    (K : ∀ G', gTf G G' → mTk G' T n p → mS G' T n (.inr p) → Q none (zP h 139 (zO 10 G'))) : zW (d + 2) m_Mo_reads e 0 [.ref 139, zD] [] h Q := by
  have hf := tkF_le (T := T) hp
  have he := tkE_le (T := T) hp
  refine b_Mo_reads_0 ⟨G, hG, _, g10, ifT (by decide) (cM_reads8 hG hR g5 g6 ht hn hp (fun G1 hg h10 h6 h7 => ?_))⟩
  have hR1 := hg.R hR
  have g51 : G1 5 = .int (nI n) := (hg 5 (by omega)).trans g5
  rw [g10] at h10
  refine b_Mo_reads_42 ⟨_, zP_same _ _ _, _, h6, ⟨_, zP_same _ _ _⟩, cM_byteAt (zP_same _ _ _) hR1 g51 (mtp ht _) hn (by omega) ⟨_, rfl, ?_⟩⟩
  by_cases cn : tkF T n p = n
  · rw [if_neg (show ¬ tkF T n p < n by omega)]
    have ek : tkK T n p = 0 := if_pos cn
    have ee : tkE T n p = tkF T n p := if_pos ek
    refine ifF (by decide) ⟨_, zP_same _ _ _, ?_⟩
    rintro h35 rfl
    rw [zP_zP]
    have hk : mTk (zU G1 8 (.int 0)) T n p := ⟨by rw [ee]; exact h6, h7, by rw [ek]; rfl⟩
    refine K _ (hg.trans (gTf.zU (by decide))) hk ⟨hp, Or.inr ⟨by unfold tkX; rw [ek]; rfl, h10, hk, fun q => ?_⟩⟩
    rw [ek] at q
    exact absurd q (by decide)
  · have hlt : tkF T n p < n := by omega
    rw [if_pos hlt]
    refine ifT (hT _ hlt).1 (cM_inC (lo := 97) (hi := 122) rfl rfl (fun c => ⟨_, rfl, ifF (by decide) ⟨_, zP_same _ _ _, ?_⟩⟩) (fun c => ⟨_, rfl, ifT rfl (cM_inC (lo := 48) (hi := 57) rfl rfl (fun c2 => ⟨_, rfl, ifF (by decide) ⟨_, zP_same _ _ _, ?_⟩⟩) (fun c2 => ⟨_, rfl, ifT rfl ⟨_, zP_same _ _ _, ?_⟩⟩))⟩))
    · have ek : tkK T n p = 1 := by unfold tkK; rw [if_neg cn, if_pos c]
      have ee : tkE T n p = rnT T 97 122 (n - tkF T n p) (tkF T n p) := by unfold tkE; rw [ek]; rfl
      rintro h33 rfl
      rw [zP_zP]
      refine cM_reads82 (p := tkF T n p) (zP_same _ _ _) (mR_of hR1 (fun k hk => zU_ne _ _ (by omega))) g51 h6 (mtp ht _) hn hf.2 (fun G2 hr h62 => ?_)
      rw [zP_zP]
      rw [← ee] at h62
      have hk : mTk G2 T n p := ⟨h62, (hr 7 (by decide)).trans h7, by rw [hr 8 (by decide), ek]; rfl⟩
      refine K _ (hg.trans (fun k hk => (hr k (by omega)).trans (zU_ne _ _ (by omega)))) hk ⟨hp, Or.inr ⟨by unfold tkX; rw [ek]; rfl, (hr 10 (by decide)).trans h10, hk, fun q => ?_⟩⟩
      rw [ek] at q
      exact absurd q (by decide)
    · have ek : tkK T n p = 2 := by unfold tkK; rw [if_neg cn, if_neg c, if_pos c2]
      have ee : tkE T n p = rnT T 48 57 (n - tkF T n p) (tkF T n p) := by unfold tkE; rw [ek]; rfl
      rintro h29 rfl
      rw [zP_zP]
      refine ⟨_, zP_same _ _ _, ?_⟩
      rintro h31 rfl
      rw [zP_zP]
      refine cM_reads140 (f := tkF T n p) (zP_same _ _ _) (mR_of hR1 (fun k hk => (zU_ne _ _ (by omega)).trans (zU_ne _ _ (by omega)))) g51 h6 h7 rfl h10 (mtp ht _) hn hf.2 (fun G2 hr h72 h82 h62 hc => ?_)
      rw [zP_zP]
      rw [← ee] at h62 hc
      have hk : mTk G2 T n p := ⟨h62, h72, by rw [h82, ek]; rfl⟩
      refine K _ (hg.trans (fun k hk => (hr k (by omega)).trans ((zU_ne _ _ (by omega)).trans (zU_ne _ _ (by omega))))) hk ⟨hp, ?_⟩
      rcases hc with ⟨q1, q2, q3⟩ | ⟨q1, q2, q3⟩
      · exact Or.inr ⟨by unfold tkX; rw [ek, decide_eq_false (by omega : ¬ 4 < tkE T n p - tkF T n p)]; rfl, q2, hk, fun _ => q3⟩
      · exact Or.inl ⟨by unfold tkX; rw [ek, decide_eq_true q1]; rfl, q2, q3⟩
    · have ek : tkK T n p = 3 := by unfold tkK; rw [if_neg cn, if_neg c, if_neg c2]
      have ee : tkE T n p = tkF T n p + 1 := by unfold tkE; rw [ek]; rfl
      rintro h13 rfl
      rw [zP_zP]
      refine ifB (fun c3 => ⟨⟨_, zP_same _ _ _⟩, cM_req_y (by decide) ⟨rfl, _, zP_same _ _ _, _, h6, _, zP_same _ _ _, ?_⟩⟩) (fun c3 => ⟨⟨_, zP_same _ _ _⟩, cM_req_n (zP_same _ _ _) h10 h7 ⟨rfl, ?_⟩⟩)
      · rintro h19 rfl
        rw [zP_zP, nI_1]
        have hk : mTk (zU (zU G1 8 (.int 3)) 6 (.int (nI (tkF T n p + 1)))) T n p := ⟨by rw [ee]; rfl, h7, by rw [ek]; rfl⟩
        refine K _ ((hg.trans (gTf.zU (by decide))).trans (gTf.zU (by decide))) hk ⟨hp, Or.inr ⟨by unfold tkX; rw [ek, c3]; rfl, h10, hk, fun q => ?_⟩⟩
        rw [ek] at q
        exact absurd q (by decide)
      · rw [zP_zP]
        refine ⟨_, zP_same _ _ _, _, h6, _, zP_same _ _ _, ?_⟩
        rintro h26 rfl
        rw [zP_zP, nI_1]
        have hk : mTk (zU (zU (zU (zU G1 8 (.int 3)) 10 (.int 1)) 11 (.int (nI (tkF T n p)))) 6 (.int (nI (tkF T n p + 1)))) T n p := ⟨by rw [ee]; rfl, h7, by rw [ek]; rfl⟩
        exact K _ ((((hg.trans (gTf.zU (by decide))).trans (gTf.zU (by decide))).trans (gTf.zU (by decide))).trans (gTf.zU (by decide))) hk ⟨hp, Or.inl ⟨by unfold tkX; rw [ek]; simp [c3], rfl, rfl⟩⟩
def isQ (T : Nat → Int32) (n p m j : Nat) (a b : Int32) : Prop := tkK T n p = 1 ∧ tkE T n p = tkF T n p + m ∧ T (tkF T n p + j) = a ∧ T (tkF T n p + j + 1) = b
theorem cM_is {m j : Nat} {a b : Int32} (hm : j + 1 < m ∧ m < 10) (hG : h.2 139 = zO 10 G) (hR : mR G) (g5 : G 5 = .int (nI n)) (hk : mTk G T n p) (ht : mtA h n T) (hn : n ≤ 300) (hp : p ≤ n)
    (K1 : isQ T n p m j a b → Q (some (.int 1)) h) (K0 : ¬ isQ T n p m j a b → Q (some (.int 0)) h) : zW (d + 2) m_Mo_is e 0 [.ref 139, .int (nI m), .int (nI j), .int a, .int b] [] h Q := by
  have hf := tkF_le (T := T) hp
  have he := tkE_le (T := T) hp
  refine b_Mo_is_0 ⟨G, hG, _, hk.2.2, ifB (fun c => ⟨G, hG, _, hk.1, G, hG, _, hk.2.1, ?_⟩) (fun c => ⟨by decide, K0 (fun q => c q.1)⟩)⟩
  rw [pk_sub he.1]
  refine ifB (fun c2 => ⟨G, hG, _, hk.2.1, ⟨G, hG⟩, ?_⟩) (fun c2 => ⟨by decide, K0 (fun q => c2 (by rw [q.2.1]; congr 1; omega))⟩)
  have c2' := (nI_eq (by omega) (by omega)).mp c2
  rw [nI_add]
  refine cM_byteAt hG hR g5 ht hn (by omega) ⟨_, rfl, ?_⟩
  rw [if_pos (show tkF T n p + j < n by omega)]
  refine ifB (fun c3 => ⟨G, hG, _, hk.2.1, ⟨G, hG⟩, ?_⟩) (fun c3 => ⟨by decide, K0 (fun q => c3 q.2.2.1)⟩)
  rw [nI_add, nI_1]
  refine cM_byteAt hG hR g5 ht hn (by omega) ⟨_, rfl, ?_⟩
  rw [if_pos (show tkF T n p + j + 1 < n by omega)]
  exact ifB (fun c4 => ⟨by decide, K1 ⟨c, by omega, c3, c4⟩⟩) (fun c4 => ⟨by decide, K0 (fun q => c4 q.2.2.2)⟩)
theorem nmQ1 : nmQ T n p 1 ↔ isQ T n p 6 0 99 108 ∧ isQ T n p 6 2 111 99 ∧ isQ T n p 6 4 107 115 := by
  constructor
  · intro q
    exact ⟨⟨q.1, q.2.1, q.2.2 0 (by decide), q.2.2 1 (by decide)⟩, ⟨q.1, q.2.1, q.2.2 2 (by decide), q.2.2 3 (by decide)⟩, q.1, q.2.1, q.2.2 4 (by decide), q.2.2 5 (by decide)⟩
  · rintro ⟨⟨a1, a2, a3, a4⟩, ⟨-, -, a5, a6⟩, -, -, a7, a8⟩
    refine ⟨a1, a2, fun j hj => ?_⟩
    have hj : j < 6 := hj
    rcases (show j = 0 ∨ j = 1 ∨ j = 2 ∨ j = 3 ∨ j = 4 ∨ j = 5 by omega) with rfl | rfl | rfl | rfl | rfl | rfl
    · exact a3
    · exact a4
    · exact a5
    · exact a6
    · exact a7
    · exact a8
theorem nmQ2 : nmQ T n p 2 ↔ isQ T n p 4 0 104 101 ∧ isQ T n p 4 2 97 114 := by
  constructor
  · intro q
    exact ⟨⟨q.1, q.2.1, q.2.2 0 (by decide), q.2.2 1 (by decide)⟩, q.1, q.2.1, q.2.2 2 (by decide), q.2.2 3 (by decide)⟩
  · rintro ⟨⟨a1, a2, a3, a4⟩, -, -, a5, a6⟩
    refine ⟨a1, a2, fun j hj => ?_⟩
    have hj : j < 4 := hj
    rcases (show j = 0 ∨ j = 1 ∨ j = 2 ∨ j = 3 by omega) with rfl | rfl | rfl | rfl
    · exact a3
    · exact a4
    · exact a5
    · exact a6
theorem nmQ3 : nmQ T n p 3 ↔ isQ T n p 5 0 108 105 ∧ isQ T n p 5 2 109 105 ∧ isQ T n p 5 3 105 116 := by
  constructor
  · intro q
    exact ⟨⟨q.1, q.2.1, q.2.2 0 (by decide), q.2.2 1 (by decide)⟩, ⟨q.1, q.2.1, q.2.2 2 (by decide), q.2.2 3 (by decide)⟩, q.1, q.2.1, q.2.2 3 (by decide), q.2.2 4 (by decide)⟩
  · rintro ⟨⟨a1, a2, a3, a4⟩, ⟨-, -, a5, a6⟩, -, -, -, a8⟩
    refine ⟨a1, a2, fun j hj => ?_⟩
    have hj : j < 5 := hj
    rcases (show j = 0 ∨ j = 1 ∨ j = 2 ∨ j = 3 ∨ j = 4 by omega) with rfl | rfl | rfl | rfl | rfl
    · exact a3
    · exact a4
    · exact a5
    · exact a6
    · exact a8
theorem nmQ4 : nmQ T n p 4 ↔ isQ T n p 5 0 108 101 ∧ isQ T n p 5 2 97 115 ∧ isQ T n p 5 3 115 116 := by
  constructor
  · intro q
    exact ⟨⟨q.1, q.2.1, q.2.2 0 (by decide), q.2.2 1 (by decide)⟩, ⟨q.1, q.2.1, q.2.2 2 (by decide), q.2.2 3 (by decide)⟩, q.1, q.2.1, q.2.2 3 (by decide), q.2.2 4 (by decide)⟩
  · rintro ⟨⟨a1, a2, a3, a4⟩, ⟨-, -, a5, a6⟩, -, -, -, a8⟩
    refine ⟨a1, a2, fun j hj => ?_⟩
    have hj : j < 5 := hj
    rcases (show j = 0 ∨ j = 1 ∨ j = 2 ∨ j = 3 ∨ j = 4 by omega) with rfl | rfl | rfl | rfl | rfl
    · exact a3
    · exact a4
    · exact a5
    · exact a6
    · exact a8
theorem cM_lineNow (hG : h.2 139 = zO 10 G) (hR : mR G) (g5 : G 5 = .int (nI n)) (hk : mTk G T n p) (ht : mtA h n T) (hn : n ≤ 300) (hp : p ≤ n)
    (K : Q (some (.int (lnV T n p))) h) : zW (d + 3) m_Mo_lineNow e 0 [.ref 139] [] h Q := by
  have o : ∃ F, h.2 139 = zO 10 F := ⟨G, hG⟩
  have p113 : ¬ nmQ T n p 1 → ¬ nmQ T n p 2 → ¬ nmQ T n p 3 → zW (d + 3) m_Mo_lineNow e 113 [.ref 139] [] h Q := fun c1 c2 c3 => by
    have no : ¬ nmQ T n p 4 → Q (some (.int (-4))) h := fun c4 => by
      unfold lnV at K
      rw [nmB_f c1, nmB_f c2, nmB_f c3, nmB_f c4] at K
      exact K
    exact b_Mo_lineNow_113 ⟨o, cM_is (m := 5) (j := 0) (by decide) hG hR g5 hk ht hn hp (fun q1 => ⟨_, rfl, ifF (by decide) ⟨o, cM_is (m := 5) (j := 2) (by decide) hG hR g5 hk ht hn hp (fun q2 => ⟨_, rfl, ifF (by decide) ⟨o, cM_is (m := 5) (j := 3) (by decide) hG hR g5 hk ht hn hp (fun q3 => ⟨_, rfl, ifF (by decide) (by
      unfold lnV at K
      rw [nmB_f c1, nmB_f c2, nmB_f c3, nmB_t (nmQ4.mpr ⟨q1, q2, q3⟩)] at K
      exact K)⟩) (fun q3 => ⟨_, rfl, ifT rfl (no (fun q => q3 (nmQ4.mp q).2.2))⟩)⟩⟩) (fun q2 => ⟨_, rfl, ifT rfl (no (fun q => q2 (nmQ4.mp q).2.1))⟩)⟩⟩) (fun q1 => ⟨_, rfl, ifT rfl (no (fun q => q1 (nmQ4.mp q).1))⟩)⟩
  have p72 : ¬ nmQ T n p 1 → ¬ nmQ T n p 2 → zW (d + 3) m_Mo_lineNow e 72 [.ref 139] [] h Q := fun c1 c2 =>
    b_Mo_lineNow_72 ⟨o, cM_is (m := 5) (j := 0) (by decide) hG hR g5 hk ht hn hp (fun q1 => ⟨_, rfl, ifF (by decide) ⟨o, cM_is (m := 5) (j := 2) (by decide) hG hR g5 hk ht hn hp (fun q2 => ⟨_, rfl, ifF (by decide) ⟨o, cM_is (m := 5) (j := 3) (by decide) hG hR g5 hk ht hn hp (fun q3 => ⟨_, rfl, ifF (by decide) (by
      unfold lnV at K
      rw [nmB_f c1, nmB_f c2, nmB_t (nmQ3.mpr ⟨q1, q2, q3⟩)] at K
      exact K)⟩) (fun q3 => ⟨_, rfl, ifT rfl (p113 c1 c2 (fun q => q3 (nmQ3.mp q).2.2))⟩)⟩⟩) (fun q2 => ⟨_, rfl, ifT rfl (p113 c1 c2 (fun q => q2 (nmQ3.mp q).2.1))⟩)⟩⟩) (fun q1 => ⟨_, rfl, ifT rfl (p113 c1 c2 (fun q => q1 (nmQ3.mp q).1))⟩)⟩
  have p44 : ¬ nmQ T n p 1 → zW (d + 3) m_Mo_lineNow e 44 [.ref 139] [] h Q := fun c1 =>
    b_Mo_lineNow_44 ⟨o, cM_is (m := 4) (j := 0) (by decide) hG hR g5 hk ht hn hp (fun q1 => ⟨_, rfl, ifF (by decide) ⟨o, cM_is (m := 4) (j := 2) (by decide) hG hR g5 hk ht hn hp (fun q2 => ⟨_, rfl, ifF (by decide) (by
      unfold lnV at K
      rw [nmB_f c1, nmB_t (nmQ2.mpr ⟨q1, q2⟩)] at K
      exact K)⟩) (fun q2 => ⟨_, rfl, ifT rfl (p72 c1 (fun q => q2 (nmQ2.mp q).2))⟩)⟩⟩) (fun q1 => ⟨_, rfl, ifT rfl (p72 c1 (fun q => q1 (nmQ2.mp q).1))⟩)⟩
  exact b_Mo_lineNow_0 ⟨o, cM_is (m := 6) (j := 0) (by decide) hG hR g5 hk ht hn hp (fun q1 => ⟨_, rfl, ifF (by decide) ⟨o, cM_is (m := 6) (j := 2) (by decide) hG hR g5 hk ht hn hp (fun q2 => ⟨_, rfl, ifF (by decide) ⟨o, cM_is (m := 6) (j := 4) (by decide) hG hR g5 hk ht hn hp (fun q3 => ⟨_, rfl, ifF (by decide) (by
      unfold lnV at K
      rw [nmB_t (nmQ1.mpr ⟨q1, q2, q3⟩)] at K
      exact K)⟩) (fun q3 => ⟨_, rfl, ifT rfl (p44 (fun q => q3 (nmQ1.mp q).2.2))⟩)⟩⟩) (fun q2 => ⟨_, rfl, ifT rfl (p44 (fun q => q2 (nmQ1.mp q).2.1))⟩)⟩⟩) (fun q1 => ⟨_, rfl, ifT rfl (p44 (fun q => q1 (nmQ1.mp q).1))⟩)⟩
end C
