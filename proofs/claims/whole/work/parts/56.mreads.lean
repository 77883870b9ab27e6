/-! The Model: it goes to the next token -/
def mtA (h : zH) (n : Nat) (T : Nat → Int32) : Prop := ∃ f, h.2 144 = zI 0 300 f ∧ ∀ k, k < n → f k = T k
theorem mtA.fr {A : Nat → Prop} {h h' : zH} {n : Nat} {T : Nat → Int32} (b : mtA h n T) (f : zFr A h h') (h1 : ¬ A 144) : mtA h' n T := by
  obtain ⟨g, hg, q⟩ := b
  exact ⟨g, by rw [f _ h1]; exact hg, q⟩
/-- the tape holds bytes -/
def TpK (n : Nat) (T : Nat → Int32) : Prop := ∀ k, k < n → 0 ≤ T k ∧ T k ≤ 127
def gTf (G G' : Nat → Value) : Prop := ∀ k, k < 6 ∨ 11 < k → G' k = G k
theorem gTf.rf {G : Nat → Value} : gTf G G := fun _ _ => rfl
theorem gTf.trans {G G1 G2 : Nat → Value} (a : gTf G G1) (b : gTf G1 G2) : gTf G G2 := fun k hk => (b k hk).trans (a k hk)
theorem gTf.R {G G' : Nat → Value} (g : gTf G G') (hR : mR G) : mR G' := mR_of hR (fun k hk => g k (by omega))
theorem gTf.zU {G : Nat → Value} {k : Nat} {v : Value} (hk : 5 < k ∧ k < 12) : gTf G (zU G k v) := fun j hj => zU_ne _ _ (by omega)
def mTk (G : Nat → Value) (T : Nat → Int32) (n p : Nat) : Prop := G 6 = .int (nI (tkE T n p)) ∧ G 7 = .int (nI (tkF T n p)) ∧ G 8 = .int (tkK T n p)
/-- where the Model stands: at a fault, or at a token -/
def mS (G : Nat → Value) (T : Nat → Int32) (n : Nat) : rdF ⊕ Nat → Prop
  | .inl f => G 10 = .int f.1 ∧ cO f.1 ∧ G 11 = .int (nI f.2)
  | .inr p => p ≤ n ∧ ((tkX T n p = true ∧ G 10 = .int 1 ∧ G 11 = .int (nI (tkF T n p))) ∨ (tkX T n p = false ∧ G 10 = .int 0 ∧ mTk G T n p ∧ (tkK T n p = 2 → G 9 = .int (tkW T n p))))
theorem rnT_s (T : Nat → Int32) (lo hi : Int32) (k p : Nat) : rnT T lo hi (k + 1) p = if T p < lo ∨ hi < T p then p else rnT T lo hi k (p + 1) := rfl
section C
variable {d : Nat} {e : Nat × Nat} {h : zH} {Q : zQ} {G : Nat → Value} {T : Nat → Int32} {n p : Nat}
theorem cM_inC {x lo hi : Int32} {L H : Int64} (hL : L = lo.toInt64) (hH : H = hi.toInt64) (K1 : lo ≤ x ∧ x ≤ hi → Q (some (.int 1)) h) (K0 : ¬ (lo ≤ x ∧ x ≤ hi) → Q (some (.int 0)) h) : zW (d + 1) m_Mo_in e 0 [.long x.toInt64, zD, .long L, zD, .long H, zD] [] h Q := by
  refine cM_in ?_
  rw [hL, hH, Int32.toInt_toInt64, Int32.toInt_toInt64, Int32.toInt_toInt64]
  by_cases c : lo ≤ x ∧ x ≤ hi
  · rw [decide_eq_true (by rw [← Int32.le_iff_toInt_le, ← Int32.le_iff_toInt_le]; exact c)]
    exact K1 c
  · rw [decide_eq_false (by rw [← Int32.le_iff_toInt_le, ← Int32.le_iff_toInt_le]; exact c)]
    exact K0 c
theorem cM_req_y {b c : Int32} (hb : ¬ b = 0) (K : Q none h) : zW (d + 1) m_Mo_requires e 0 [.ref 139, .int b, .int c] [] h Q := b_Mo_requires_0 (ifF hb K)
theorem cM_req_f {b c f : Int32} (hG : h.2 139 = zO 10 G) (g : G 10 = .int f) (hf : ¬ f = 0) (K : Q none h) : zW (d + 1) m_Mo_requires e 0 [.ref 139, .int b, .int c] [] h Q := b_Mo_requires_0 (ifB (fun _ => ⟨G, hG, _, g, ifF hf K⟩) (fun _ => K))
theorem cM_req_n {c : Int32} {w : Nat} (hG : h.2 139 = zO 10 G) (g : G 10 = .int 0) (g7 : G 7 = .int (nI w)) (K : Q none (zP h 139 (zO 10 (zU (zU G 10 (.int c)) 11 (.int (nI w)))))) : zW (d + 1) m_Mo_requires e 0 [.ref 139, .int 0, .int c] [] h Q := by
  refine b_Mo_requires_0 (ifT rfl ⟨G, hG, _, g, ifT rfl ⟨G, hG, ?_⟩⟩)
  rintro h4 rfl
  refine ⟨_, zP_same _ _ _, _, g7, _, zP_same _ _ _, ?_⟩
  rintro h8 rfl
  rw [zP_zP]
  exact K
theorem cM_byteAt (hG : h.2 139 = zO 10 G) (hR : mR G) (g5 : G 5 = .int (nI n)) (ht : mtA h n T) (hn : n ≤ 300) (hp : p < 2 ^ 31) (K : Q (some (.int (if p < n then T p else -1))) h) : zW (d + 1) m_Mo_byteAt e 0 [.ref 139, .int (nI p)] [] h Q := by
  obtain ⟨f, hf, hf2⟩ := ht
  refine b_Mo_byteAt_0 ⟨G, hG, _, g5, ifB (fun c => ?_) (fun c => ⟨G, hG, _, hR.2.2.2.2.1, 300, f, hf, zIn_nI ?_ (by decide), ?_⟩)⟩
  · rw [if_neg (by have := (nI_leI (by omega) hp).mp c; omega)] at K; exact K
  · have := mt (nI_leI (a := n) (b := p) (by omega) hp).mpr c
    omega
  · have := mt (nI_leI (a := n) (b := p) (by omega) hp).mpr c
    rw [if_pos (by omega)] at K
    rw [nI_clamp (by omega), hf2 p (by omega)]
    exact K
theorem cM_reads_f {c : Int32} (hG : h.2 139 = zO 10 G) (g : G 10 = .int c) (hc : cO c) (K : Q none h) : zW (d + 1) m_Mo_reads e 0 [.ref 139, zD] [] h Q := b_Mo_reads_0 ⟨G, hG, _, g, ifF hc.pos K⟩
theorem mtp (ht : mtA h n T) (z : zCell) : mtA (zP h 139 z) n T := ht.fr (zFr.put (A := fun z => z = 139) rfl) (by decide)
theorem cM_reads8 (hG : h.2 139 = zO 10 G) (hR : mR G) (g5 : G 5 = .int (nI n)) (g6 : G 6 = .int (nI p)) (ht : mtA h n T) (hn : n ≤ 300) (hp : p ≤ n)
    (K : ∀ G', gTf G G' → G' 10 = G 10 → G' 6 = .int (nI (tkF T n p)) → G' 7 = .int (nI (tkF T n p)) → zW (d + 2) m_Mo_reads e 42 [.ref 139, zD] [] (zP h 139 (zO 10 G')) Q) : zW (d + 2) m_Mo_reads e 8 [.ref 139, zD] [] h Q := by
  have loop : ∀ k i (G1 : Nat → Value), i + k = n → gTf G G1 → G1 10 = G 10 → G1 6 = .int (nI i) → rnT T 32 32 k i = tkF T n p → zW (d + 2) m_Mo_reads e 8 [.ref 139, zD] [] (zP h 139 (zO 10 G1)) Q := by
    intro k
    induction k with
    | zero =>
      intro i G1 hk hg h10 h6 hr
      refine b_Mo_reads_8 ⟨_, zP_same _ _ _, _, h6, ⟨_, zP_same _ _ _⟩, cM_byteAt (zP_same _ _ _) (hg.R hR) ((hg 5 (by omega)).trans g5) (mtp ht _) hn (by omega) ⟨_, rfl, ?_⟩⟩
      rw [if_neg (show ¬ i < n by omega)]
      refine ifF (by decide) ⟨_, zP_same _ _ _, _, h6, _, zP_same _ _ _, ?_⟩
      rintro h13 rfl
      rw [zP_zP]
      have er : i = tkF T n p := hr
      refine K _ (hg.trans (gTf.zU (by decide))) h10 ?_ ?_
      · rw [← er]; exact h6
      · rw [← er]; rfl
    | succ k ih =>
      intro i G1 hk hg h10 h6 hr
      refine b_Mo_reads_8 ⟨_, zP_same _ _ _, _, h6, ⟨_, zP_same _ _ _⟩, cM_byteAt (zP_same _ _ _) (hg.R hR) ((hg 5 (by omega)).trans g5) (mtp ht _) hn (by omega) ⟨_, rfl, ?_⟩⟩
      rw [if_pos (show i < n by omega)]
      rw [rnT_s] at hr
      refine ifB (fun c => ⟨_, zP_same _ _ _, _, h6, _, zP_same _ _ _, ?_⟩) (fun c => ⟨_, zP_same _ _ _, _, h6, _, zP_same _ _ _, ?_⟩)
      · rintro h9 rfl
        rw [zP_zP, nI_1]
        rw [if_neg (by rw [c]; decide)] at hr
        exact ih (i + 1) _ (by omega) (hg.trans (gTf.zU (by decide))) h10 rfl hr
      · rintro h13 rfl
        rw [zP_zP]
        rw [if_pos (by
          rcases Int32.lt_or_lt_of_ne c with q | q
          · exact Or.inl q
          · exact Or.inr q)] at hr
        refine K _ (hg.trans (gTf.zU (by decide))) h10 ?_ ?_
        · rw [← hr]; exact h6
        · rw [← hr]; rfl
  have := loop (n - p) p G (by omega) gTf.rf rfl g6 rfl
  rw [zP_self hG] at this
  exact this
theorem cM_reads82 (hG : h.2 139 = zO 10 G) (hR : mR G) (g5 : G 5 = .int (nI n)) (g6 : G 6 = .int (nI p)) (ht : mtA h n T) (hn : n ≤ 300) (hp : p ≤ n)
    (K : ∀ G', (∀ k, k ≠ 6 → G' k = G k) → G' 6 = .int (nI (rnT T 97 122 (n - p) p)) → Q none (zP h 139 (zO 10 G'))) : zW (d + 2) m_Mo_reads e 82 [.ref 139, zD] [] h Q := by
  have loop : ∀ k i (G1 : Nat → Value), i + k = n → (∀ k, k ≠ 6 → G1 k = G k) → G1 6 = .int (nI i) → rnT T 97 122 k i = rnT T 97 122 (n - p) p → zW (d + 2) m_Mo_reads e 82 [.ref 139, zD] [] (zP h 139 (zO 10 G1)) Q := by
    intro k
    induction k with
    | zero =>
      intro i G1 hk hg h6 hr
      refine b_Mo_reads_82 ⟨_, zP_same _ _ _, _, h6, ⟨_, zP_same _ _ _⟩, cM_byteAt (zP_same _ _ _) (mR_of hR (fun k hk => hg k (by omega))) ((hg 5 (by omega)).trans g5) (mtp ht _) hn (by omega) ⟨_, rfl, ?_⟩⟩
      rw [if_neg (show ¬ i < n by omega)]
      refine cM_inC (lo := 97) (hi := 122) rfl rfl (fun q => absurd q (by decide)) (fun _ => ⟨_, rfl, ifT rfl (K G1 hg ?_)⟩)
      rw [← hr]; exact h6
    | succ k ih =>
      intro i G1 hk hg h6 hr
      refine b_Mo_reads_82 ⟨_, zP_same _ _ _, _, h6, ⟨_, zP_same _ _ _⟩, cM_byteAt (zP_same _ _ _) (mR_of hR (fun k hk => hg k (by omega))) ((hg 5 (by omega)).trans g5) (mtp ht _) hn (by omega) ⟨_, rfl, ?_⟩⟩
      rw [if_pos (show i < n by omega)]
      rw [rnT_s] at hr
      refine cM_inC (lo := 97) (hi := 122) rfl rfl (fun c => ⟨_, rfl, ifF (by decide) ⟨_, zP_same _ _ _, _, h6, _, zP_same _ _ _, ?_⟩⟩) (fun c => ⟨_, rfl, ifT rfl (K G1 hg ?_)⟩)
      · rintro h12 rfl
        rw [zP_zP, nI_1]
        rw [if_neg (by rintro (q | q); exact absurd c.1 (Int32.not_le.mpr q); exact absurd c.2 (Int32.not_le.mpr q))] at hr
        exact ih (i + 1) _ (by omega) (fun k hk => by rw [zU_ne _ _ hk]; exact hg k hk) rfl hr
      · rw [if_pos (by
          by_cases q : T i < 97
          · exact Or.inl q
          · exact Or.inr (Int32.not_le.mp (fun q2 => c ⟨Int32.not_lt.mp q, q2⟩)))] at hr
        rw [← hr]; exact h6
  have := loop (n - p) p G (by omega) (fun _ _ => rfl) g6 rfl
  rw [zP_self hG] at this
  exact this
theorem ev_sw (x y : Int32) : 10 * x + y - 48 = x * 10 + (y - 48) := by
  rw [Int32.mul_comm 10 x, Int32.sub_eq_add_neg, Int32.sub_eq_add_neg, Int32.add_assoc]
theorem cM_reads140 {f : Nat} (hG : h.2 139 = zO 10 G) (hR : mR G) (g5 : G 5 = .int (nI n)) (g6 : G 6 = .int (nI f)) (g7 : G 7 = .int (nI f)) (g9 : G 9 = .int 0) (g10 : G 10 = .int 0) (ht : mtA h n T) (hn : n ≤ 300) (hp : f ≤ n)
    (K : ∀ G', gTf G G' → G' 7 = .int (nI f) → G' 8 = G 8 → G' 6 = .int (nI (rnT T 48 57 (n - f) f)) → ((rnT T 48 57 (n - f) f - f ≤ 4 ∧ G' 10 = .int 0 ∧ G' 9 = .int (evP T f (rnT T 48 57 (n - f) f - f))) ∨ (4 < rnT T 48 57 (n - f) f - f ∧ G' 10 = .int 1 ∧ G' 11 = .int (nI f))) → Q none (zP h 139 (zO 10 G'))) : zW (d + 2) m_Mo_reads e 140 [.ref 139, zD] [] h Q := by
  have stop : ∀ i (G1 : Nat → Value), i = rnT T 48 57 (n - f) f → f ≤ i → i ≤ n → gTf G G1 → G1 7 = .int (nI f) → G1 8 = G 8 → G1 10 = .int 0 → G1 6 = .int (nI i) → G1 9 = .int (evP T f (min 4 (i - f))) →
      ∃ F9, (zP h 139 (zO 10 G1)).2 139 = zO 10 F9 ∧ ∃ x10, F9 6 = Value.int x10 ∧ (∃ F11, (zP h 139 (zO 10 G1)).2 139 = zO 10 F11 ∧ ∃ x12, F11 7 = Value.int x12 ∧ ((if (4 : Int32) < (x10 - x12) then (∃ F15, (zP h 139 (zO 10 G1)).2 139 = zO 10 F15) ∧ zW (d + 1) m_Mo_requires (zP h 139 (zO 10 G1)).1 0 [Value.ref 139, Value.int (0 : Int32), Value.int (1 : Int32)] [] (zP h 139 (zO 10 G1)) (fun r13 h14 => r13 = none ∧ (Q none h14)) else (∃ F18, (zP h 139 (zO 10 G1)).2 139 = zO 10 F18) ∧ zW (d + 1) m_Mo_requires (zP h 139 (zO 10 G1)).1 0 [Value.ref 139, Value.int (1 : Int32), Value.int (1 : Int32)] [] (zP h 139 (zO 10 G1)) (fun r16 h17 => r16 = none ∧ (Q none h17))))) := by
    intro i G1 hi hfi hin hg h7 h8 h10 h6 h9
    refine ⟨_, zP_same _ _ _, _, h6, _, zP_same _ _ _, _, h7, ?_⟩
    rw [pk_sub hfi]
    refine ifB (fun c => ⟨⟨_, zP_same _ _ _⟩, cM_req_n (zP_same _ _ _) h10 h7 ⟨rfl, ?_⟩⟩) (fun c => ⟨⟨_, zP_same _ _ _⟩, cM_req_y (by decide) ⟨rfl, ?_⟩⟩)
    · have c' := (nI_ltI (a := 4) (b := i - f) (by omega) (by omega)).mp c
      rw [zP_zP]
      refine K _ ((hg.trans (gTf.zU (by decide))).trans (gTf.zU (by decide))) h7 h8 ?_ (Or.inr ⟨by rw [← hi]; exact c', rfl, rfl⟩)
      rw [← hi]; exact h6
    · have c' := mt (nI_ltI (a := 4) (b := i - f) (by omega) (by omega)).mpr c
      refine K _ hg h7 h8 (by rw [← hi]; exact h6) (Or.inl ⟨by rw [← hi]; omega, h10, ?_⟩)
      rw [h9, ← hi, Nat.min_eq_right (by omega)]
  have loop : ∀ k i (G1 : Nat → Value), i + k = n → f ≤ i → gTf G G1 → G1 7 = .int (nI f) → G1 8 = G 8 → G1 10 = .int 0 → G1 6 = .int (nI i) → G1 9 = .int (evP T f (min 4 (i - f))) → rnT T 48 57 k i = rnT T 48 57 (n - f) f → zW (d + 2) m_Mo_reads e 140 [.ref 139, zD] [] (zP h 139 (zO 10 G1)) Q := by
    intro k
    induction k with
    | zero =>
      intro i G1 hk hfi hg h7 h8 h10 h6 h9 hr
      refine b_Mo_reads_140 ⟨_, zP_same _ _ _, _, h6, ⟨_, zP_same _ _ _⟩, cM_byteAt (zP_same _ _ _) (hg.R hR) ((hg 5 (by omega)).trans g5) (mtp ht _) hn (by omega) ⟨_, rfl, ?_⟩⟩
      rw [if_neg (show ¬ i < n by omega)]
      exact cM_inC (lo := 48) (hi := 57) rfl rfl (fun q => absurd q (by decide)) (fun _ => ⟨_, rfl, ifT rfl (stop i G1 hr hfi (by omega) hg h7 h8 h10 h6 h9)⟩)
    | succ k ih =>
      intro i G1 hk hfi hg h7 h8 h10 h6 h9 hr
      refine b_Mo_reads_140 ⟨_, zP_same _ _ _, _, h6, ⟨_, zP_same _ _ _⟩, cM_byteAt (zP_same _ _ _) (hg.R hR) ((hg 5 (by omega)).trans g5) (mtp ht _) hn (by omega) ⟨_, rfl, ?_⟩⟩
      rw [if_pos (show i < n by omega)]
      rw [rnT_s] at hr
      refine cM_inC (lo := 48) (hi := 57) rfl rfl (fun c => ⟨_, rfl, ifF (by decide) ⟨_, zP_same _ _ _, _, h6, _, zP_same _ _ _, _, h7, ?_⟩⟩) (fun c => ⟨_, rfl, ifT rfl (stop i G1 ?_ hfi (by omega) hg h7 h8 h10 h6 h9)⟩)
      · rw [if_neg (by rintro (q | q); exact absurd c.1 (Int32.not_le.mpr q); exact absurd c.2 (Int32.not_le.mpr q))] at hr
        rw [pk_sub hfi]
        refine ifB (fun c2 => ⟨_, zP_same _ _ _, _, h9, _, zP_same _ _ _, ?_⟩) (fun c2 => ⟨_, zP_same _ _ _, _, h9, _, zP_same _ _ _, _, h6, ⟨_, zP_same _ _ _⟩, cM_byteAt (zP_same _ _ _) (hg.R hR) ((hg 5 (by omega)).trans g5) (mtp ht _) hn (by omega) ⟨_, rfl, _, zP_same _ _ _, ?_⟩⟩)
        · have c2' := (nI_leI (a := 4) (b := i - f) (by omega) (by omega)).mp c2
          rintro h26 rfl
          rw [zP_zP]
          refine ⟨_, zP_same _ _ _, _, h6, _, zP_same _ _ _, ?_⟩
          rintro h30 rfl
          rw [zP_zP, nI_1]
          refine ih (i + 1) _ (by omega) (by omega) ((hg.trans (gTf.zU (by decide))).trans (gTf.zU (by decide))) h7 h8 h10 rfl ?_ hr
          show Value.int _ = Value.int _
          rw [Nat.min_eq_left (by omega), Nat.min_eq_left (by omega)]
        · have c2' := mt (nI_leI (a := 4) (b := i - f) (by omega) (by omega)).mpr c2
          rw [if_pos (show i < n by omega)]
          rintro h39 rfl
          rw [zP_zP]
          refine ⟨_, zP_same _ _ _, _, h6, _, zP_same _ _ _, ?_⟩
          rintro h43 rfl
          rw [zP_zP, nI_1]
          refine ih (i + 1) _ (by omega) (by omega) ((hg.trans (gTf.zU (by decide))).trans (gTf.zU (by decide))) h7 h8 h10 rfl ?_ hr
          show Value.int _ = Value.int _
          rw [Nat.min_eq_right (show i - f ≤ 4 by omega), Nat.min_eq_right (show i + 1 - f ≤ 4 by omega), show i + 1 - f = (i - f) + 1 by omega, ev_sw]
          unfold evP
          rw [show f + (i - f) = i by omega]
          cases i - f <;> rfl
      · rw [if_pos (by
          by_cases q : T i < 48
          · exact Or.inl q
          · exact Or.inr (Int32.not_le.mp (fun q2 => c ⟨Int32.not_lt.mp q, q2⟩)))] at hr
        exact hr
  have := loop (n - f) f G (by omega) (Nat.le_refl _) gTf.rf g7 rfl g10 g6 (by rw [g9, Nat.sub_self]; rfl) rfl
  rw [zP_self hG] at this
  exact this
end C
