/-! The Model: a time along THE CHAIN -/
theorem good_pos {S : Nat → Int32} {li le : Int32} {r s : Nat} (hS : StK S) (hle : 2 ≤ le) (hr : r < 7) (hs : s < 7) (hk : (fR S li le r s).1 = 2) : 0 < cnL (fR S li le r s).2.1 16 ∧ lxx S r (fR S li le r s).2.1 ≠ 0 := by
  obtain ⟨hp, -, hk2, -⟩ := fR_ok (li := li) hS hle hr hs
  rw [hk] at hk2
  generalize (fR S li le r s).2.1 = L at hp hk2
  unfold lkd at hk2
  split at hk2
  · exact absurd hk2 (by decide)
  · rename_i c
    refine ⟨?_, fun q => c (Or.inr q)⟩
    rcases Nat.eq_zero_or_pos (cnL L 16) with q | q
    · exfalso
      apply c
      left
      rw [q]
      have := Int32.le_iff_toInt_le.mp hle
      exact Int32.lt_iff_toInt_lt.mpr (by have e1 : (2 : Int32).toInt = 2 := by decide
                                          have e0 : (nI 0).toInt = 0 := by decide
                                          omega)
    · exact q
theorem add_neg {x y : Int64} (hy : bd y 159984) : x + (-256) * y = x - 256 * y ∧ addO x ((-256) * y) = subO x (256 * y) := by
  have c1 : bd (-256 : Int64) 256 := by unfold bd; decide
  have c2 : bd (256 : Int64) 256 := by unfold bd; decide
  have m1 := (bd_mul c1 hy (by decide)).1
  have m2 := (bd_mul c2 hy (by decide)).1
  have e1 : (-256 : Int64).toInt = -256 := by decide
  have e2 : (256 : Int64).toInt = 256 := by decide
  rw [e1] at m1
  rw [e2] at m2
  refine ⟨Int64.toInt_inj.mp ?_, ?_⟩
  · rw [Int64.toInt_add, Int64.toInt_sub, m1, m2]
    congr 1
    omega
  · unfold addO subO
    rw [m1, m2]
    congr 2
    omega
section C
variable {d : Nat} {e : Nat × Nat} {h : zH} {Q : zQ} {G : Nat → Value} {n l q : Int32} {S : Nat → Int32} {N a r s : Nat} {v : Int64}
/-- what a call that takes a time leaves alone -/
def mGt (G G' : Nat → Value) : Prop := ∀ k, k < 14 ∨ k = 22 ∨ k = 23 ∨ (24 < k ∧ k ≠ 31 ∧ k ≠ 32) → G' k = G k
theorem cM_takes (hG : h.2 139 = zO 10 G) (hR : mR G) (hm : msA h n l q S) (hA : mAr h) (hS : StK S) (hq : 2 ≤ q) (hr : r < 7) (hs : s < 7) (hk : (fR S l q r s).1 = 2) (g31 : G 31 = .int 0) (g32 : G 32 = .long v)
    (K : ∀ h' G', h'.2 139 = zO 10 G' → mGt G G' → mAr h' → zFr (fun z => z = 139 ∨ z = 145 ∨ z = 146) h h' → G' 31 = .int (b01 (tkO S r s (fR S l q r s).2.1 v)) → G' 32 = .long (tkV S r s (fR S l q r s).2.1 v) → Q none h') : zW (d + 5) m_Mo_takes e 0 [.ref 139, .int (nI r), .int (nI s), zD, zD, zD, zD] [] h Q := by
  refine b_Mo_takes_0 ⟨⟨G, hG⟩, cM_fits hG hR hm hA.1 hA.2.1 hS hq hr hs (fun h1 G1 hf1 hG1 g1 hl1 => ⟨rfl, ?_⟩)⟩
  obtain ⟨hn, hx⟩ := good_pos hS hq hr hs hk
  obtain ⟨hp, -, -, -⟩ := fR_ok (li := l) hS hq hr hs
  have hA1 : ∀ h2, zFr (fun z => z = 139) h1 h2 → mAr h2 := fun h2 hf2 => by
    obtain ⟨-, -, -, -, ⟨p, hp, -⟩, o, ho, -⟩ := id hl1
    obtain ⟨-, -, A3, A4, A5, A6⟩ := id hA
    exact ⟨⟨p, by rw [hf2 _ (by decide)]; exact hp⟩, ⟨o, by rw [hf2 _ (by decide)]; exact ho⟩, A3.imp fun _ q => by rw [hf2 _ (by decide), hf1 _ (by decide)]; exact q, A4.imp fun _ q => by rw [hf2 _ (by decide), hf1 _ (by decide)]; exact q, A5.imp fun _ q => by rw [hf2 _ (by decide), hf1 _ (by decide)]; exact q, A6.imp fun _ q => by rw [hf2 _ (by decide), hf1 _ (by decide)]; exact q⟩
  obtain ⟨-, l2, -⟩ := hl1
  generalize (fR S l q r s).2.1 = L at hp l2 hn hx K
  have hL1 : ∀ b, b < 16 → L b = true → S (16 * r + b) ≠ -4 := fun b hb h => (hp b hb h).1
  obtain ⟨s1, s2, s3, s4, s5⟩ := id l2
  have t31 : G1 31 = .int (b01 false) := (g1 31 (by omega)).trans g31
  have t32 : G1 32 = .long v := (g1 32 (by omega)).trans g32
  obtain ⟨an1, an2⟩ := add_neg (x := lN (cnL L 16) * v) (lX_bd hS hr hL1).2
  refine b_Mo_takes_6 ⟨G1, hG1, _, s1, G1, hG1, _, t32, ⟨G1, hG1⟩, cM_times hG1 t31 ⟨_, rfl, _, zP_same _ _ _, _, s2, ⟨_, zP_same _ _ _⟩, cM_plus (zP_same _ _ _) rfl ?_⟩⟩
  rw [zP_zP]
  refine ⟨_, rfl, _, zP_same _ _ _, _, s5, ⟨_, zP_same _ _ _⟩, cM_times (zP_same _ _ _) rfl ?_⟩
  rw [zP_zP]
  refine ⟨_, rfl, _, zP_same _ _ _, _, s3, _, zP_same _ _ _, _, s4, ⟨_, zP_same _ _ _⟩, cM_plus (zP_same _ _ _) rfl ?_⟩
  rw [zP_zP]
  refine ⟨_, rfl, ⟨_, zP_same _ _ _⟩, cM_den (zP_same _ _ _) l2 ⟨_, rfl, cM_nearest (lden_pos hS hr hL1 hn hx) (lden_ok hS hr hL1).1 ⟨_, rfl, _, zP_same _ _ _, ?_⟩⟩⟩
  rintro h32 rfl
  rw [zP_zP]
  have h139 : ∀ x, zFr (fun z => z = 139) h1 (zP h1 139 x) := fun x => zFr.put rfl
  refine K _ _ (zP_same _ _ _) (fun k hk => ?_) (hA1 _ (h139 _)) (hf1.trans ((h139 _).sub (fun z hz => Or.inl hz))) ?_ ?_
  · rw [zU_ne _ _ (by omega), zU_ne _ _ (by omega), zU_ne _ _ (by omega), zU_ne _ _ (by omega), zU_ne _ _ (by omega)]
    exact g1 k (by omega)
  · show Value.int _ = _
    rw [an1, an2]
    rfl
  · show Value.long _ = _
    rw [an1]
    rfl
end C
