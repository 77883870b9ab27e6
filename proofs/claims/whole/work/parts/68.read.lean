/-! The class answers as the Model does: read -/
def ffS (m : Nat) (C : Nat → Int32) (f : Int32) : Nat → Nat → Int32
  | 0, _ => 0
  | j + 1, i => if ¬ f + nI i < 0 ∧ f + nI i < nI m then (if C (f + nI i).toNatClampNeg ≤ 9999 then ffS m C f j (i + 1) else -20 - nI i) else -13
theorem m20 : ∀ i, i < 17 → ¬ (-20 - nI i : Int32) = 0 := by decide
theorem ffS_0 {m : Nat} {C : Nat → Int32} {f : Int32} : ∀ j i, i + j ≤ 16 → ffS m C f j i = 0 → ∀ b, i ≤ b → b < i + j → (¬ f + nI b < 0 ∧ f + nI b < nI m) ∧ C (f + nI b).toNatClampNeg ≤ 9999
  | 0, i, _, _, b, h1, h2 => by omega
  | j + 1, i, hj, h0, b, h1, h2 => by
    unfold ffS at h0
    by_cases c1 : ¬ f + nI i < 0 ∧ f + nI i < nI m
    · rw [if_pos c1] at h0
      by_cases c2 : C (f + nI i).toNatClampNeg ≤ 9999
      · rw [if_pos c2] at h0
        by_cases eb : b = i
        · rw [eb]; exact ⟨c1, c2⟩
        · exact ffS_0 j (i + 1) (by omega) h0 b (by omega) (by omega)
      · rw [if_neg c2] at h0
        exact absurd h0 (m20 i (by omega))
    · rw [if_neg c1] at h0
      exact absurd h0 (by decide)
theorem i32_rg (x : Int32) : -2147483648 ≤ x.toInt ∧ x.toInt < 2147483648 := ⟨Int32.le_toInt x, Int32.toInt_lt x⟩
theorem bm32 (x : Int) : ∃ k : Int, x.bmod (2 ^ 32) = x + 4294967296 * k ∧ -2147483648 ≤ x.bmod (2 ^ 32) ∧ x.bmod (2 ^ 32) < 2147483648 := by
  have h1 : -((2 ^ 32 : Nat) : Int) / 2 ≤ x.bmod (2 ^ 32) := by
    have := Int.le_bmod (x := x) (m := 2 ^ 32) (by decide)
    omega
  have h2 : x.bmod (2 ^ 32) < (((2 ^ 32 : Nat) : Int) + 1) / 2 := Int.bmod_lt (by decide)
  have h3 := Int.bmod_add_bdiv x (2 ^ 32)
  refine ⟨-(x.bdiv (2 ^ 32)), ?_, ?_, ?_⟩
  · have e : ((2 ^ 32 : Nat) : Int) = 4294967296 := by decide
    rw [e] at h3
    rw [Int.mul_neg]
    omega
  · have e : -((2 ^ 32 : Nat) : Int) / 2 = -2147483648 := by decide
    omega
  · have e : (((2 ^ 32 : Nat) : Int) + 1) / 2 = 2147483648 := by decide
    omega
theorem m1_int {m : Nat} (hm : m ≤ 48) : (nI m - 1).toInt = (m : Int) - 1 := by
  rw [Int32.toInt_sub, nI_toInt (by omega), show (1 : Int32).toInt = 1 from rfl]
  exact Int.bmod_eq_of_le_mul_two (by omega) (by omega)
theorem sumL {f : Int32} {i : Nat} (hi : i ≤ 16) : (f.toInt64 + (nI i).toInt64).toInt = f.toInt + i := by
  have := i32_rg f
  rw [Int64.toInt_add, Int32.toInt_toInt64, Int32.toInt_toInt64, nI_toInt (by omega)]
  exact bm_in (by omega)
theorem cellL {f : Int32} {i m : Nat} (hi : i ≤ 16) (hm : m ≤ 48) : (0 ≤ (f.toInt64 + (nI i).toInt64).toInt ∧ (f.toInt64 + (nI i).toInt64).toInt ≤ (nI m - 1).toInt64.toInt) ↔ (¬ f + nI i < 0 ∧ f + nI i < nI m) := by
  have hr := i32_rg f
  rw [sumL hi, Int32.toInt_toInt64, m1_int hm, Int32.lt_iff_toInt_lt, Int32.lt_iff_toInt_lt, Int32.toInt_add, nI_toInt (show m < 2 ^ 31 by omega), nI_toInt (show i < 2 ^ 31 by omega), show (0 : Int32).toInt = 0 from rfl]
  obtain ⟨k, hk, h1, h2⟩ := bm32 (f.toInt + i)
  omega
theorem sum32 (f g : Int32) : (f.toInt64 + g.toInt64).toInt32 = f + g := by
  apply Int32.toInt_inj.mp
  have h1 := i32_rg f
  have h2 := i32_rg g
  rw [Int64.toInt_toInt32, Int64.toInt_add, Int32.toInt_toInt64, Int32.toInt_toInt64, bm_in (by omega), Int32.toInt_add]
theorem le64 {x : Int32} : x.toInt64 ≤ 9999 ↔ x ≤ 9999 := by
  rw [Int64.le_iff_toInt_le, Int32.le_iff_toInt_le, Int32.toInt_toInt64]
  exact Iff.rfl
theorem ge64 {x : Int32} : 0 ≤ x.toInt64 ↔ 0 ≤ x := by
  rw [Int64.le_iff_toInt_le, Int32.le_iff_toInt_le, Int32.toInt_toInt64]
  exact Iff.rfl
/-- the stamps of a clock, the first i of them read -/
def rdM (S : Nat → Int32) (r : Nat) (v : Nat → Int32) (i : Nat) : Nat → Int32 := fun j => if 16 * r ≤ j ∧ j < 16 * r + i then v (j - 16 * r) else S j
theorem rdM_put {S : Nat → Int32} {r i : Nat} {v : Nat → Int32} (j : Nat) : zU (rdM S r v i) (16 * r + i) (v i) j = rdM S r v (i + 1) j := by
  unfold rdM
  by_cases ej : j = 16 * r + i
  · rw [ej, zU_same, if_pos (by omega), show 16 * r + i - 16 * r = i by omega]
  · rw [zU_ne _ _ ej]
    by_cases c : 16 * r ≤ j ∧ j < 16 * r + i
    · rw [if_pos c, if_pos (by omega)]
    · rw [if_neg c, if_neg (by omega)]
theorem rdM_0 {S : Nat → Int32} {r : Nat} {v : Nat → Int32} (j : Nat) : rdM S r v 0 j = S j := by
  unfold rdM
  rw [if_neg (by omega)]
theorem rowE_rd {S : Nat → Int32} {r r2 i : Nat} {v : Nat → Int32} (hi : i ≤ 16) (hr : r2 ≠ r) : rowE S (rdM S r v i) r2 := fun b hb => by
  unfold rdM
  rw [if_neg (by omega)]
theorem rdM_StK {S : Nat → Int32} {r i : Nat} {v : Nat → Int32} (hS : StK S) (hv : ∀ b, b < i → v b = -4 ∨ (0 ≤ v b ∧ v b ≤ 9999)) : StK (rdM S r v i) := fun j hj => by
  unfold rdM
  by_cases c : 16 * r ≤ j ∧ j < 16 * r + i
  · rw [if_pos c]; exact hv _ (by omega)
  · rw [if_neg c]; exact hS j hj
def cvS (C : Nat → Int32) (f : Int32) (b : Nat) : Int32 := if 0 ≤ C (f + nI b).toNatClampNeg then C (f + nI b).toNatClampNeg else -4
section C
variable {d : Nat} {e : Nat × Nat} {h : zH} {Q : zQ} {k : Nat}
theorem cS_first24 {a m n : Nat} {f ln : Int32} {C : Nat → Int32} (hs : shA h a (nI m) ln (fun i => (C i).toInt64)) (hm : m ≤ 48) (hn : n ≤ 16) : ∀ j i, i + j = n → Q (some (.int (ffS m C f j i))) h → zW (d + 2) m_Sheet_firstFault e 24 [.ref a, zD, .int f, .int (nI n), .int (nI i)] [] h Q := by
  intro j
  induction j with
  | zero =>
    intro i hj K
    exact b_Sheet_firstFault_24 (ifT (nI_le (by omega) (by omega)) K)
  | succ j ih =>
    intro i hj K
    unfold ffS at K
    refine b_Sheet_firstFault_24 (ifF (nI_ge (by omega) (by omega)) ⟨hs.1.imp fun _ w => w.1, cS_hasCell hs ⟨_, rfl, ?_⟩⟩)
    by_cases c1 : ¬ f + nI i < 0 ∧ f + nI i < nI m
    · rw [if_pos c1] at K ⊢
      obtain ⟨⟨F, hF, f0, f1, f2⟩, C0, hC, hC0⟩ := id hs
      obtain ⟨jj, hjj, ej⟩ := (cell_in hm).mp c1
      refine ifF (by decide) ⟨F, hF, _, f2, 48, C0, hC, by rw [ej]; exact zIn_nI (by omega) (by decide), ?_⟩
      have ev : C0 (f + nI i).toNatClampNeg = (C (f + nI i).toNatClampNeg).toInt64 := by
        rw [ej, nI_clamp (by omega)]
        exact hC0 jj (by omega)
      rw [ev, nI_1]
      refine ifB (fun c2 => ih (i + 1) (by omega) ?_) (fun c2 => ?_)
      · rw [if_pos (le64.mp (lc_le.mp c2))] at K; exact K
      · rw [if_neg (fun w => c2 (lc_le.mpr (le64.mpr w)))] at K; exact K
    · rw [if_neg c1] at K ⊢
      exact ifT rfl K
theorem cM_read35 {G : Nat → Value} {i0 lj m n r : Nat} {f : Int32} {l0 z0 c0 : Nat → Int32} {C : Nat → Int32} (hG : h.2 139 = zO 10 G) (gR : mR G) (hl : h.2 153 = zI 0 4 l0) (hz : h.2 154 = zI 0 4 z0) (hc : h.2 155 = zI 0 192 c0) (hi0 : i0 < 4) (hlj : lj < 3) (el : l0 i0 = nI lj) (ez : z0 i0 = nI m) (ec : ∀ c, c < 48 → c0 (48 * i0 + c) = C c) (hm : m ≤ 48) (hn : n ≤ 16) : ∀ j i, i + j = n →
    (ffS m C f j i = 0 → zW (d + 2) m_Mo_read e 149 [.ref 139, .int (nI i0), zD, .int f, .int (nI r), .int (nI n), .int 0, zD, zD, zD] [] h Q) → (¬ ffS m C f j i = 0 → Q (some (.int (ffS m C f j i))) h) → zW (d + 2) m_Mo_read e 35 [.ref 139, .int (nI i0), .int (nI lj), .int f, .int (nI r), .int (nI n), .int (nI i), zD, zD, zD] [] h Q := by
  intro j
  induction j with
  | zero =>
    intro i hj K1 K0
    exact b_Mo_read_35 (ifT (nI_le (by omega) (by omega)) (K1 rfl))
  | succ j ih =>
    intro i hj K1 K0
    unfold ffS at K1 K0
    refine b_Mo_read_35 (ifF (nI_ge (by omega) (by omega)) ⟨G, hG, _, gR.2.2.2.2.2.2.2.2.2.2.2.2.2.1, 4, l0, hl, zIn_nI hi0 (by decide), ?_⟩)
    rw [nI_clamp (by omega), el]
    refine ifF (nI_m4 (by omega)) ⟨G, hG, _, gR.2.2.2.2.2.2.2.2.2.2.2.2.2.1, 4, l0, hl, zIn_nI hi0 (by decide), ?_⟩
    rw [el]
    refine ifT rfl ⟨G, hG, _, gR.2.2.2.2.2.2.2.2.2.2.2.2.2.2.1, 4, z0, hz, zIn_nI hi0 (by decide), ?_⟩
    rw [ez]
    refine cM_in ⟨_, rfl, ?_⟩
    rw [show (0 : Int64).toInt = 0 from rfl]
    by_cases c1 : ¬ f + nI i < 0 ∧ f + nI i < nI m
    · rw [if_pos c1] at K1 K0
      obtain ⟨jj, hjj, ej⟩ := (cell_in hm).mp c1
      rw [decide_eq_true ((cellL (by omega) hm).mpr c1)]
      have e1 : (48 : Int32) * nI i0 + (f.toInt64 + (nI i).toInt64).toInt32 = nI (48 * i0 + jj) := by rw [sum32, ej, ix48]
      refine ifF (by decide) (b_Mo_read_102 (ifT (by decide) ⟨G, hG, _, gR.2.2.2.2.2.2.2.2.2.2.2.2.2.2.2, 192, c0, hc, by rw [e1]; exact zIn_nI (by omega) (by decide), ?_⟩))
      rw [e1, nI_clamp (by omega), ec jj (by omega), nI_1]
      have ev : C (f + nI i).toNatClampNeg = C jj := by rw [ej, nI_clamp (by omega)]
      rw [ev] at K1 K0
      refine ifB (fun c2 => ih (i + 1) (by omega) ?_ ?_) (fun c2 => ?_)
      · rw [if_pos c2] at K1; exact K1
      · rw [if_pos c2] at K0; exact K0
      · rw [if_neg c2] at K0; exact K0 (m20 i (by omega))
    · rw [if_neg c1] at K0
      rw [decide_eq_false (mt (cellL (by omega) hm).mp c1)]
      exact ifT rfl (b_Mo_read_102 (ifF (by decide) (K0 (by decide))))
theorem cM_read149 {G : Nat → Value} {i0 m n r : Nat} {nn l q f : Int32} {S c0 : Nat → Int32} {C : Nat → Int32} (hG : h.2 139 = zO 10 G) (gR : mR G) (hm0 : msA h nn l q S) (hc : h.2 155 = zI 0 192 c0) (hi0 : i0 < 4) (ec : ∀ c, c < 48 → c0 (48 * i0 + c) = C c) (hm : m ≤ 48) (hn : n ≤ 16) (hr : r < 7) (hok : ∀ b, b < n → ¬ f + nI b < 0 ∧ f + nI b < nI m)
    (K : ∀ h', msA h' nn l q (rdM S r (cvS C f) n) → zFr (fun z => z = 140) h h' → Q (some (.int (nI n))) h') : ∀ j i h1, i + j = n → msA h1 nn l q (rdM S r (cvS C f) i) → zFr (fun z => z = 140) h h1 → zW (d + 2) m_Mo_read e 149 [.ref 139, .int (nI i0), zD, .int f, .int (nI r), .int (nI n), .int (nI i), zD, zD, zD] [] h1 Q := by
  intro j
  induction j with
  | zero =>
    intro i h1 hj hm1 hf1
    have : i = n := by omega
    subst this
    exact b_Mo_read_149 (ifT (Int32.le_refl _) (K h1 hm1 hf1))
  | succ j ih =>
    intro i h1 hj hm1 hf1
    have hG1 : h1.2 139 = zO 10 G := (hf1 _ (by decide)).trans hG
    obtain ⟨jj, hjj, ej⟩ := (cell_in hm).mp (hok i (by omega))
    have e1 : (48 : Int32) * nI i0 + f + nI i = nI (48 * i0 + jj) := by rw [Int32.add_assoc, ej, ix48]
    obtain ⟨st, hst, hm2⟩ := msA.put (v := cvS C f i) hm1 hr (show i < 16 by omega)
    have ev : cvS C f i = if 0 ≤ C jj then C jj else -4 := by unfold cvS; rw [ej, nI_clamp (by omega)]
    have key : ∀ v : Int32, v = cvS C f i → ∀ h12, h12 = zP h1 140 (zI 0 115 (zU st (3 + (16 * r + i)) v)) → zW (d + 2) m_Mo_read e 149 [.ref 139, .int (nI i0), zD, .int f, .int (nI r), .int (nI n), .int (nI (i + 1)), zD, zD, zD] [] h12 Q := by
      rintro v rfl h12 rfl
      exact ih (i + 1) _ (by omega) (hm2.congr (fun b _ => rdM_put b)) (hf1.trans (zFr.put rfl))
    refine b_Mo_read_149 (ifF (nI_ge (by omega) (by omega)) ⟨G, hG1, _, gR.2.2.2.2.2.2.2.2.2.2.2.2.2.2.2, 192, c0, (hf1 _ (by decide)).trans hc, by rw [e1]; exact zIn_nI (by omega) (by decide), G, hG1, _, gR.1, cM_at ⟨_, rfl, ?_⟩⟩)
    rw [e1, nI_clamp (show 48 * i0 + jj < 2 ^ 31 by omega), ec jj (by omega), nI_1, nI_clamp (show 3 + (16 * r + i) < 2 ^ 31 by omega)]
    exact ifB (fun c => ⟨115, st, hst, zIn_nI (by omega) (by decide), key _ (by rw [ev, if_pos c])⟩) (fun c => ⟨115, st, hst, zIn_nI (by omega) (by decide), key _ (by rw [ev, if_neg c])⟩)
theorem cX_read77 {F : Nat → Value} {a m n r nw : Nat} {nn l q f sz ln : Int32} {S : Nat → Int32} {C : Nat → Int32} (hF : h.2 8 = zO 9 F) (hR : blR F) (ha : 131 ≤ a) (hs : shA h a sz ln (fun i => (C i).toInt64)) (hw : wbA h S l q nw) (hnw : nw < 2 ^ 30) (hm : m ≤ 48) (hn : n ≤ 16) (hr : r < 7) (hok : ∀ b, b < n → ¬ f + nI b < 0 ∧ f + nI b < nI m)
    (K : ∀ h', bkA h' 15 nn l q (rdM S r (cvS C f) n) → wbA h' (rdM S r (cvS C f) n) l q (nw + 1) → zFr (fun z => z = 14 ∨ z = 16 ∨ z = 18) h h' → Q (some (.int (nI n))) h') : ∀ j i h1, i + j = n → bkA h1 15 nn l q (rdM S r (cvS C f) i) → zFr (fun z => z = 16) h h1 → zW (d + 2) m_BL_read e 77 [.ref 8, zD, zD, .int f, .int (nI r), .int (nI n), .ref a, zD, .int (nI i)] [] h1 Q := by
  intro j
  induction j with
  | zero =>
    intro i h1 hj hb1 hf1
    have : i = n := by omega
    subst this
    have hw1 := hw.fr hf1 (fun z hz w => by have hz : z = 16 := hz; omega)
    obtain ⟨⟨⟨W, hW, -⟩, -⟩, -⟩ := id hw1
    refine b_BL_read_77 (ifT (Int32.le_refl _) ⟨F, (hf1 _ (by decide)).trans hF, _, hR.2.2.1, ⟨W, hW⟩, cW_touch hw1 hr hnw (fun r2 _ hne => rowE_rd hn hne) (fun h2 hw2 hf2 => ⟨rfl, K h2 (hb1.fr hf2 (by decide) (by decide)) hw2 ?_⟩)⟩)
    exact (hf1.sub (fun z hz => Or.inr (Or.inl hz))).trans (hf2.sub (fun z hz => by rcases hz with hz | hz; exact Or.inl hz; exact Or.inr (Or.inr hz)))
  | succ j ih =>
    intro i h1 hj hb1 hf1
    obtain ⟨jj, hjj, ej⟩ := (cell_in hm).mp (hok i (by omega))
    have hs1 := hs.fr hf1 (show ¬ (a = 16) by omega) (show ¬ (a + 1 = 16) by omega)
    have ev : cvS C f i = if 0 ≤ C jj then C jj else -4 := by unfold cvS; rw [ej, nI_clamp (by omega)]
    refine b_BL_read_77 (ifF (nI_ge (by omega) (by omega)) ⟨F, (hf1 _ (by decide)).trans hF, _, hR.2.2.2.1, hs1.1.imp fun _ w => w.1, ?_⟩)
    rw [ej]
    refine cS_stampIn hs1 (show jj < 48 by omega) ⟨_, rfl, hb1.1.imp fun _ w => w.1, cB_putStamp hb1 hr (show i < 16 by omega) (fun h2 hb2 hf2 => ⟨rfl, ?_⟩)⟩
    rw [nI_1]
    have e2 : (if 0 ≤ (C jj).toInt64 then ((C jj).toInt64).toInt32 else -4) = cvS C f i := by
      rw [ev]
      by_cases c : 0 ≤ C jj
      · rw [if_pos c, if_pos (ge64.mpr c), Int32.toInt32_toInt64]
      · rw [if_neg c, if_neg (fun w => c (ge64.mp w))]
    rw [e2] at hb2
    exact ih (i + 1) h2 (by omega) (hb2.to (fun b _ => rdM_put b)) (hf1.trans (hf2.sub (fun z hz => hz)))
theorem P_read (hA : AB h k) (hk : k < 2 ^ 29) (x y f0 z v : Int32) : PRi (d + 9) h k m_BL_read [.ref 8, .int x, .int y, .int f0, .int z, .int v, zD, zD, zD] m_Mo_read [.ref 139, .int x, .int y, .int f0, .int z, .int v, zD, zD, zD, zD] := by
  obtain ⟨B, t, I, H, f, o, hC, hM, iB, iT, iI, iH⟩ := id hA
  obtain ⟨⟨F, hF, hR, f10, f11⟩, -, ⟨hbk, ⟨nw, hnw, hw⟩, hch⟩, -, -, ⟨⟨ga, hga, ga2⟩, hsh⟩⟩ := id hC
  obtain ⟨⟨G, hG, gR, g5, g10, g30⟩, hm, hs, hyI, hmt, ⟨⟨l0, hl0, hl02⟩, ⟨z0, hz0, hz02⟩, c0, hc0, hc02⟩⟩ := id hM
  have hN := iB.1.2
  have ob : ∃ F, h.2 15 = zO 0 F := hbk.1.imp fun _ w => w.1
  unfold PRi
  rcases qR_dec 4 x with ⟨i, hi, rfl⟩ | hx
  · rcases qR_dec 3 y with ⟨lj, hlj, rfl⟩ | hy
    · rcases qR_dec B.1 z with ⟨r, hr, rfl⟩ | hz
      · rcases qR_dec 17 v with ⟨n, hn, rfl⟩ | hv
        · have hs1 := hsh i hi
          have os : ∃ F, h.2 (131 + 2 * i) = zO 4 F := hs1.1.imp fun _ w => w.1
          refine b_BL_read_0 (xS_y hi ⟨_, rfl, ifF (by decide) (xL_y hlj ⟨_, rfl, ifF (by decide) ⟨F, hF, _, hR.2.2.2.1, ob, cB_has_y hbk hN hr ⟨_, rfl, ifF (by decide) (ifF (nI_pos (by omega)) (ifT (show nI n ≤ nI 16 from nI_le (by omega) (by decide)) (ifB (fun c => ?_) (fun c => ⟨F, hF, _, hR.2.2.2.2.2.2.2.2.2, 4, ga, hga, zIn_nI hi (by decide), 131 + 2 * i, by rw [nI_clamp (by omega)]; exact ga2 i hi, os, b_Sheet_firstFault_0 ⟨os, cS_isNothing hs1 ⟨_, rfl, ?_⟩⟩⟩))))⟩⟩⟩)⟩)
          · have hn0 := (nI_eq (a := n) (b := 0) (by omega) (by omega)).mp c
            subst hn0
            refine ⟨_, rfl, zFr.rf, ⟨G, hG⟩, b_Mo_read_0 (mSh_y hi hlj ⟨_, rfl, ifF (by decide) ⟨⟨G, hG⟩, mC_y hG gR hm hN hr ⟨_, rfl, ifF (by decide) (mR_y (N := 16) (hi := 16) rfl rfl rfl (by decide) (by omega) ⟨_, rfl, ifF (by decide) (b_Mo_read_35 (ifT (show nI 0 ≤ nI 0 from Int32.le_refl _) (b_Mo_read_149 (ifT (show nI 0 ≤ nI 0 from Int32.le_refl _) ⟨rfl, hA.up, zFr.rf⟩))))⟩)⟩⟩⟩)⟩
          · have hn0 : n ≠ 0 := fun w => c (by rw [w]; rfl)
            have mo : ∀ {h1 : zH} {Q : zQ} {e : Nat × Nat}, h1.2 139 = zO 10 G → msA h1 (nI B.1) B.2.1 B.2.2.1 B.2.2.2 → zW (d + 9) m_Mo_read e 35 [.ref 139, .int (nI i), .int (nI lj), .int f0, .int (nI r), .int (nI n), .int 0, zD, zD, zD] [] h1 Q → zW (d + 9) m_Mo_read e 0 [.ref 139, .int (nI i), .int (nI lj), .int f0, .int (nI r), .int (nI n), zD, zD, zD, zD] [] h1 Q := fun hG1 hm1 w => b_Mo_read_0 (mSh_y hi hlj ⟨_, rfl, ifF (by decide) ⟨⟨G, hG1⟩, mC_y hG1 gR hm1 hN hr ⟨_, rfl, ifF (by decide) (mR_y (N := 16) (hi := 16) rfl rfl rfl (by decide) (by omega) ⟨_, rfl, ifF (by decide) w⟩)⟩⟩⟩)
            rcases iH i hi with hno | ⟨⟨m, hm48, hsz⟩, lk, hlk, hln⟩
            · rw [if_pos hno]
              refine ifF (by decide) ⟨_, rfl, ifF (by decide) ⟨_, rfl, zFr.rf, ⟨G, hG⟩, mo hG hm (b_Mo_read_35 (ifF (show ¬ nI n ≤ nI 0 from nI_ge (by omega) (by omega)) ⟨G, hG, _, gR.2.2.2.2.2.2.2.2.2.2.2.2.2.1, 4, l0, hl0, zIn_nI hi (by decide), ?_⟩))⟩⟩
              rw [nI_clamp (by omega), hl02 i hi, if_pos hno]
              exact ifT rfl (b_Mo_read_102 (ifF (by decide) ⟨rfl, hA.up, zFr.rf⟩))
            · have hn1 : ¬ (H i).1 = -1 := fun w => by rw [hsz] at w; have := congrArg Int32.toInt w; rw [nI_toInt (by omega), show (-1 : Int32).toInt = -1 from rfl] at this; omega
              have el : l0 i = nI lk := by rw [hl02 i hi, if_neg hn1, hln]
              have ez : z0 i = nI m := by rw [hz02 i hi hn1, hsz]
              rw [if_neg hn1]
              obtain ⟨⟨E, hE, e0, e1, e2⟩, -⟩ := id hs1
              refine ifT rfl ⟨E, hE, _, e1, ?_⟩
              rw [hln]
              by_cases cl : lj = lk
              · subst cl
                refine ifT rfl ?_
                rw [hsz] at hs1
                refine cS_first24 hs1 hm48 (show n ≤ 16 by omega) n 0 (by omega) ⟨_, rfl, ?_⟩
                by_cases cf : ffS m (H i).2.2 f0 n 0 = 0
                · have hok := fun b (hb : b < n) => ffS_0 n 0 (by omega) cf b (by omega) (by omega)
                  refine ifT cf (cX_read77 (a := 131 + 2 * i) hF hR (by omega) hs1 hw (by omega) hm48 (show n ≤ 16 by omega) (show r < 7 by omega) (fun b hb => (hok b hb).1) (fun h1 hb1 hw1 hf1 => ⟨_, rfl, ?_⟩) n 0 h (by omega) (hbk.to (fun j _ => (rdM_0 j).symm)) zFr.rf)
                  have rg : ∀ z, (z = 14 ∨ z = 16 ∨ z = 18) → 14 ≤ z ∧ z < 120 := fun z hz => by omega
                  have hG1 : h1.2 139 = zO 10 G := (hf1 _ (by decide)).trans hG
                  have hm1 := hm.fr hf1 (by decide)
                  refine ⟨hf1.sub (fun z hz => by have := rg z hz; show 8 ≤ z; omega), ⟨G, hG1⟩, mo hG1 hm1 (cM_read35 hG1 gR ((hf1 _ (by decide)).trans hl0) ((hf1 _ (by decide)).trans hz0) ((hf1 _ (by decide)).trans hc0) hi hlj el ez (hc02 i hi) hm48 (show n ≤ 16 by omega) n 0 (by omega) (fun _ => cM_read149 hG1 gR hm1 ((hf1 _ (by decide)).trans hc0) hi (hc02 i hi) hm48 (show n ≤ 16 by omega) (show r < 7 by omega) (fun b hb => (hok b hb).1) (fun h2 hm2 hf2 => ⟨rfl, ⟨(B.1, B.2.1, B.2.2.1, rdM B.2.2.2 r (cvS (H i).2.2 f0) n), t, I, H, f, o, ?_, ?_, ⟨iB.1, iB.2.1, iB.2.2.1, rdM_StK iB.2.2.2 (fun b hb => ?_)⟩, iT, iI, iH⟩, ?_⟩) n 0 h1 (by omega) (hm1.congr (fun j _ => (rdM_0 j).symm)) zFr.rf) (fun w => absurd cf w))⟩
                  · exact CA.fr (CA.wb hC hf1 rg (xW_all (B := (B.1, B.2.1, B.2.2.1, rdM B.2.2.2 r (cvS (H i).2.2 f0) n)) hb1 hw1 hnw hch hf1 (fun z hz w => by have hz : z = 14 ∨ z = 16 ∨ z = 18 := hz; omega))) hf2 (fun z hz => by rw [hz]; decide)
                  · exact MA.st (hM.fr hf1 (fun z hz => by have := rg z hz; omega)) hf2 (fun z hz => hz) hm2
                  · unfold cvS
                    by_cases c0 : 0 ≤ (H i).2.2 (f0 + nI b).toNatClampNeg
                    · rw [if_pos c0]; exact Or.inr ⟨c0, (hok b hb).2⟩
                    · rw [if_neg c0]; exact Or.inl rfl
                  · exact (hf1.sub (fun z hz => by have := rg z hz; show 8 ≤ z; omega)).trans (hf2.sub (fun z hz => by rw [hz]; decide))
                · exact ifF cf ⟨_, rfl, zFr.rf, ⟨G, hG⟩, mo hG hm (cM_read35 hG gR hl0 hz0 hc0 hi hlj el ez (hc02 i hi) hm48 (show n ≤ 16 by omega) n 0 (by omega) (fun w => absurd w cf) (fun _ => ⟨rfl, hA.up, zFr.rf⟩))⟩
              · have clI : ¬ nI lj = nI lk := fun w => cl ((nI_eq (by omega) (by omega)).mp w)
                refine ifF clI ⟨_, rfl, ifF (by decide) ⟨_, rfl, zFr.rf, ⟨G, hG⟩, mo hG hm (b_Mo_read_35 (ifF (show ¬ nI n ≤ nI 0 from nI_ge (by omega) (by omega)) ⟨G, hG, _, gR.2.2.2.2.2.2.2.2.2.2.2.2.2.1, 4, l0, hl0, zIn_nI hi (by decide), ?_⟩))⟩⟩
                rw [nI_clamp (by omega), el]
                refine ifF (nI_m4 (by omega)) ⟨G, hG, _, gR.2.2.2.2.2.2.2.2.2.2.2.2.2.1, 4, l0, hl0, zIn_nI hi (by decide), ?_⟩
                rw [el]
                exact ifF (fun w => clI w.symm) (b_Mo_read_102 (ifF (by decide) ⟨rfl, hA.up, zFr.rf⟩))
        · have fin : ∃ w : Int32, some (Value.int (-1)) = some (.int w) ∧ zFr up8 h h ∧ (∃ G, h.2 139 = zO 10 G) ∧ zW (d + 9) m_Mo_read h.1 0 [.ref 139, .int (nI i), .int (nI lj), .int f0, .int (nI r), .int v, zD, zD, zD, zD] [] h (fun r2 h2 => r2 = some (.int w) ∧ AB h2 (k + 1) ∧ zFr up8 h h2) := ⟨_, rfl, zFr.rf, ⟨G, hG⟩, b_Mo_read_0 (mSh_y hi hlj ⟨_, rfl, ifF (by decide) ⟨⟨G, hG⟩, mC_y hG gR hm hN hr ⟨_, rfl, ifF (by decide) (mR_n (N := 16) (hi := 16) rfl rfl rfl (by decide) hv ⟨_, rfl, ifT rfl ⟨rfl, hA.up, zFr.rf⟩⟩)⟩⟩⟩)⟩
          refine b_BL_read_0 (xS_y hi ⟨_, rfl, ifF (by decide) (xL_y hlj ⟨_, rfl, ifF (by decide) ⟨F, hF, _, hR.2.2.2.1, ob, cB_has_y hbk hN hr ⟨_, rfl, ifF (by decide) (ifB (fun _ => fin) (fun c => ifF (fun w => ?_) fin))⟩⟩⟩)⟩)
          have := Int32.le_trans ((qR_n (by decide) hv).resolve_left c) w
          exact absurd this (by decide)
      · exact b_BL_read_0 (xS_y hi ⟨_, rfl, ifF (by decide) (xL_y hlj ⟨_, rfl, ifF (by decide) ⟨F, hF, _, hR.2.2.2.1, ob, cB_has_n hbk hN hz ⟨_, rfl, ifT rfl ⟨_, rfl, zFr.rf, ⟨G, hG⟩, b_Mo_read_0 (mSh_y hi hlj ⟨_, rfl, ifF (by decide) ⟨⟨G, hG⟩, mC_n hG gR hm hN hz ⟨_, rfl, ifT rfl ⟨rfl, hA.up, zFr.rf⟩⟩⟩⟩)⟩⟩⟩⟩)⟩)
    · exact b_BL_read_0 (xS_y hi ⟨_, rfl, ifF (by decide) (xL_n hy ⟨_, rfl, ifT rfl ⟨_, rfl, zFr.rf, ⟨G, hG⟩, b_Mo_read_0 (mSh_n2 hi hy ⟨_, rfl, ifT rfl ⟨rfl, hA.up, zFr.rf⟩⟩)⟩⟩)⟩)
  · exact b_BL_read_0 (xS_n hx ⟨_, rfl, ifT rfl ⟨_, rfl, zFr.rf, ⟨G, hG⟩, b_Mo_read_0 (mSh_n1 hx ⟨_, rfl, ifT rfl ⟨rfl, hA.up, zFr.rf⟩⟩)⟩⟩)
end C
