/-! The Model: numbers, stops -/
def mV (h : zH) (G : Nat → Value) (n : Nat) (T : Nat → Int32) : Prop := h.2 139 = zO 10 G ∧ mR G ∧ G 5 = .int (nI n) ∧ mtA h n T
section C
variable {d : Nat} {e : Nat × Nat} {h : zH} {Q : zQ} {G G' : Nat → Value} {T : Nat → Int32} {n p : Nat} {lo hi : Int32} {x y : rdS}
theorem mV.to (v : mV h G n T) (g : gTf G G') : mV (zP h 139 (zO 10 G')) G' n T := ⟨zP_same _ _ _, g.R v.2.1, (g 5 (by omega)).trans v.2.2.1, mtp v.2.2.2 _⟩
theorem mS_x (hs : mS G T n (.inr p)) (hx : tkX T n p = true) : mS G T n (.inl (1, tkF T n p)) := by
  rcases hs.2 with ⟨-, q1, q2⟩ | ⟨q, -⟩
  · exact ⟨q1, Or.inl rfl, q2⟩
  · rw [hx] at q; cases q
theorem mS_g (hs : mS G T n (.inr p)) (hx : tkX T n p = false) : G 10 = .int 0 ∧ mTk G T n p ∧ (tkK T n p = 2 → G 9 = .int (tkW T n p)) := by
  rcases hs.2 with ⟨q, -⟩ | ⟨-, q⟩
  · rw [hx] at q; cases q
  · exact q
theorem cM_num25f {f : rdF} (hG : h.2 139 = zO 10 G) (hs : mS G T n (.inl f)) (K : Q (some (.int 0)) h) : zW (d + 2) m_Mo_numberNow e 25 [.ref 139, .int lo, .int hi] [] h Q :=
  b_Mo_numberNow_25 ⟨G, hG, _, hs.1, ifF hs.2.1.ne ⟨G, hG, _, hs.1, ifF hs.2.1.ne K⟩⟩
theorem cM_num_f {f : rdF} (hG : h.2 139 = zO 10 G) (hs : mS G T n (.inl f)) (K : Q (some (.int 0)) h) : zW (d + 2) m_Mo_numberNow e 0 [.ref 139, .int lo, .int hi] [] h Q :=
  b_Mo_numberNow_0 ⟨G, hG, _, hs.1, ifF hs.2.1.ne (cM_num25f hG hs K)⟩
theorem cM_num (hG : h.2 139 = zO 10 G) (hs : mS G T n (.inr p))
    (K1 : ∀ v p', nmP T n lo hi p = .inr (v, p') → Q (some (.int v)) h)
    (K0 : ∀ c w, nmP T n lo hi p = .inl (c, w) → ∀ G', gTf G G' → mS G' T n (.inl (c, w)) → Q (some (.int 0)) (zP h 139 (zO 10 G'))) : zW (d + 2) m_Mo_numberNow e 0 [.ref 139, .int lo, .int hi] [] h Q := by
  cases hx : tkX T n p with
  | true =>
    have hs' := mS_x hs hx
    refine cM_num_f hG hs' ?_
    have := K0 1 (tkF T n p) (by unfold nmP; rw [if_pos hx]) G gTf.rf hs'
    rw [zP_self hG] at this
    exact this
  | false =>
    obtain ⟨g10, hk, g9⟩ := mS_g hs hx
    refine b_Mo_numberNow_0 ⟨G, hG, _, g10, ifT rfl ⟨G, hG, _, hk.2.2, ifB (fun c => ⟨⟨G, hG⟩, cM_req_y (by decide) ⟨rfl, ?_⟩⟩) (fun c => ⟨⟨G, hG⟩, cM_req_n hG g10 hk.2.1 ⟨rfl, ?_⟩⟩)⟩⟩
    · refine b_Mo_numberNow_25 ⟨G, hG, _, g10, ifT rfl ⟨G, hG, _, g9 c, cM_inC rfl rfl (fun q => ⟨_, rfl, ⟨G, hG⟩, cM_req_y (by decide) ⟨rfl, G, hG, _, g10, ifT rfl ⟨G, hG, _, g9 c, ?_⟩⟩⟩) (fun q => ⟨_, rfl, ⟨G, hG⟩, cM_req_n hG g10 hk.2.1 ⟨rfl, _, zP_same _ _ _, _, rfl, ifF (by decide) ?_⟩⟩)⟩⟩
      · refine K1 _ (tkE T n p) ?_
        unfold nmP
        rw [if_neg (by rw [hx]; decide), if_pos c, if_neg (by rintro (w | w); exact absurd q.1 (Int32.not_le.mpr w); exact absurd q.2 (Int32.not_le.mpr w))]
      · refine K0 3 (tkF T n p) ?_ _ ((gTf.zU (by decide)).trans (gTf.zU (by decide))) ⟨rfl, Or.inr (Or.inr (Or.inl rfl)), rfl⟩
        unfold nmP
        rw [if_neg (by rw [hx]; decide), if_pos c, if_pos (by
          by_cases w : tkW T n p < lo
          · exact Or.inl w
          · exact Or.inr (Int32.not_le.mp (fun w2 => q ⟨Int32.not_lt.mp w, w2⟩)))]
    · refine cM_num25f (T := T) (n := n) (f := (2, tkF T n p)) (zP_same _ _ _) ⟨rfl, Or.inr (Or.inl rfl), rfl⟩ ?_
      refine K0 2 (tkF T n p) ?_ _ ((gTf.zU (by decide)).trans (gTf.zU (by decide))) ⟨rfl, Or.inr (Or.inl rfl), rfl⟩
      unfold nmP
      rw [if_neg (by rw [hx]; decide), if_neg c]
theorem cM_rdN_f {f : rdF} (hG : h.2 139 = zO 10 G) (hs : mS G T n (.inl f)) (K : Q (some (.int 0)) h) : zW (d + 3) m_Mo_readNumber e 0 [.ref 139, .int lo, .int hi, zD] [] h Q :=
  b_Mo_readNumber_0 ⟨⟨G, hG⟩, cM_num_f hG hs ⟨_, rfl, ⟨G, hG⟩, cM_reads_f hG hs.1 hs.2.1 ⟨rfl, K⟩⟩⟩
theorem cM_rdN (hV : mV h G n T) (hn : n ≤ 300) (hT : TpK n T) (hs : mS G T n (.inr p))
    (K1 : ∀ v p', nmP T n lo hi p = .inr (v, p') → ∀ G', gTf G G' → mS G' T n (.inr p') → Q (some (.int v)) (zP h 139 (zO 10 G')))
    (K0 : ∀ c w, nmP T n lo hi p = .inl (c, w) → ∀ G', gTf G G' → mS G' T n (.inl (c, w)) → Q (some (.int 0)) (zP h 139 (zO 10 G'))) : zW (d + 3) m_Mo_readNumber e 0 [.ref 139, .int lo, .int hi, zD] [] h Q := by
  have hG := hV.1
  refine b_Mo_readNumber_0 ⟨⟨G, hG⟩, cM_num hG hs (fun v p' e1 => ⟨_, rfl, ⟨G, hG⟩, ?_⟩) (fun c w e1 G1 g1 hs1 => ⟨_, rfl, ⟨_, zP_same _ _ _⟩, cM_reads_f (zP_same _ _ _) hs1.1 hs1.2.1 ⟨rfl, K0 c w e1 G1 g1 hs1⟩⟩)⟩
  obtain ⟨-, -, q1, q2, -, -⟩ := nmP_r e1
  obtain ⟨g10, hk, -⟩ := mS_g hs q2
  have he := tkE_le (T := T) hs.1
  exact cM_reads (p := p') hG hV.2.1 hV.2.2.1 (by rw [q1]; exact hk.1) g10 hV.2.2.2 hn hT (nmP_le hs.1 e1).2 (fun G1 g1 _ hs1 => ⟨rfl, K1 v p' e1 G1 g1 hs1⟩)
theorem cM_stop_f {f : rdF} (hG : h.2 139 = zO 10 G) (hs : mS G T n (.inl f)) (K : Q none h) : zW (d + 3) m_Mo_readStop e 0 [.ref 139] [] h Q :=
  b_Mo_readStop_0 ⟨G, hG, _, hs.1, ifF hs.2.1.ne ⟨⟨G, hG⟩, cM_reads_f hG hs.1 hs.2.1 ⟨rfl, K⟩⟩⟩
def mSO (G : Nat → Value) (T : Nat → Int32) (n : Nat) : rdF ⊕ rdS → Prop
  | .inl f => mS G T n (.inl f)
  | .inr y => mS G T n (.inr y.1)
theorem cM_stop (hV : mV h G n T) (hn : n ≤ 300) (hT : TpK n T) (hs : mS G T n (.inr p))
    (K : ∀ G', gTf G G' → mSO G' T n (sgO T n p y) → Q none (zP h 139 (zO 10 G'))) : zW (d + 3) m_Mo_readStop e 0 [.ref 139] [] h Q := by
  have hG := hV.1
  cases hx : tkX T n p with
  | true =>
    have hs' := mS_x hs hx
    refine cM_stop_f hG hs' ?_
    have e1 : sgO T n p y = .inl (1, tkF T n p) := by unfold sgO sgP; rw [if_pos hx]
    rw [e1] at K
    have := K G gTf.rf hs'
    rw [zP_self hG] at this
    exact this
  | false =>
    obtain ⟨g10, hk, g9⟩ := mS_g hs hx
    have he := tkE_le (T := T) hs.1
    refine b_Mo_readStop_0 ⟨G, hG, _, g10, ifT rfl ⟨G, hG, _, hk.2.2, ifB (fun c => ⟨⟨G, hG⟩, cM_req_y (by decide) ⟨rfl, ⟨G, hG⟩, cM_reads (p := tkE T n p) hG hV.2.1 hV.2.2.1 hk.1 g10 hV.2.2.2 hn hT he.2 (fun G1 g1 _ hs1 => ⟨rfl, K G1 g1 ?_⟩)⟩⟩) (fun c => ⟨⟨G, hG⟩, cM_req_n hG g10 hk.2.1 ⟨rfl, ⟨_, zP_same _ _ _⟩, cM_reads_f (zP_same _ _ _) rfl (Or.inr (Or.inl rfl)) ⟨rfl, K _ ((gTf.zU (by decide)).trans (gTf.zU (by decide))) ?_⟩⟩⟩)⟩⟩
    · have e1 : sgO T n p y = .inr (tkE T n p, y.2) := by unfold sgO sgP; rw [if_neg (by rw [hx]; decide), if_pos c]
      rw [e1]
      exact hs1
    · have e1 : sgO T n p y = .inl (2, tkF T n p) := by unfold sgO sgP; rw [if_neg (by rw [hx]; decide), if_neg c]
      rw [e1]
      exact ⟨rfl, Or.inr (Or.inl rfl), rfl⟩
end C
