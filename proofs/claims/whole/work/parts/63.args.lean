/-! Bounds of arguments, both ways -/
def qR (N : Nat) (x : Int32) : Prop := ∃ j, j < N ∧ x = nI j
theorem qR_n {N : Nat} {x : Int32} (hN : N < 2 ^ 31) (h : ¬ qR N x) : x < 0 ∨ nI N ≤ x := by
  rcases pk_ix x hN with q | q | ⟨j, hj, q⟩
  · exact Or.inl q
  · exact Or.inr q
  · exact absurd ⟨j, hj, q⟩ h
theorem qR_dec (N : Nat) (x : Int32) : qR N x ∨ ¬ qR N x := Classical.em _
theorem i32_lt0 {x : Int32} : x < 0 ↔ x.toInt < 0 := by rw [Int32.lt_iff_toInt_lt]; rfl
theorem qR_int {N : Nat} {x : Int32} (hN : N < 2 ^ 31) : (0 ≤ x.toInt ∧ x.toInt < N) ↔ qR N x := by
  constructor
  · rintro ⟨h1, h2⟩
    rcases pk_ix x hN with q | q | q
    · rw [i32_lt0] at q; omega
    · rw [Int32.le_iff_toInt_le, nI_toInt hN] at q; omega
    · exact q
  · rintro ⟨j, hj, rfl⟩
    rw [nI_toInt (by omega)]
    omega
section C
variable {d : Nat} {e : Nat × Nat} {h : zH} {Q : zQ} {a N : Nat} {l q x : Int32} {S : Nat → Int32} {j : Nat}
theorem cB_has_y (hb : bkA h a (nI N) l q S) (hN : N ≤ 7) (hj : j < N) (K : Q (some (.int 1)) h) : zW (d + 1) m_Book_hasClock e 0 [.ref a, .int (nI j)] [] h Q := by
  refine cB_hasClock hb ?_
  rw [if_pos ⟨nI_pos (by omega), nI_lt hj (by omega)⟩]
  exact K
theorem cB_has_n (hb : bkA h a (nI N) l q S) (hN : N ≤ 7) (hx : ¬ qR N x) (K : Q (some (.int 0)) h) : zW (d + 1) m_Book_hasClock e 0 [.ref a, .int x] [] h Q := by
  refine cB_hasClock hb ?_
  rw [if_neg (fun w => ?_)]
  · exact K
  · rcases qR_n (by omega) hx with q | q
    · exact w.1 q
    · exact absurd q (Int32.not_le.mpr w.2)
theorem xB_y (hj : j < 16) (K : Q (some (.int 1)) h) : zW (d + 1) m_BL_isBeacon e 0 [.int (nI j)] [] h Q := b_BL_isBeacon_0 (ifF (nI_pos (by omega)) (ifF (show ¬ nI 16 ≤ nI j from nI_ge hj (by decide)) ⟨by decide, K⟩))
theorem xB_n (hx : ¬ qR 16 x) (K : Q (some (.int 0)) h) : zW (d + 1) m_BL_isBeacon e 0 [.int x] [] h Q := b_BL_isBeacon_0 (ifB (fun _ => ⟨by decide, K⟩) (fun c => ifT ((qR_n (by decide) hx).resolve_left c) ⟨by decide, K⟩))
theorem xI_y (hj : j < 2) (K : Q (some (.int 1)) h) : zW (d + 1) m_BL_isImage e 0 [.int (nI j)] [] h Q := b_BL_isImage_0 (ifF (nI_pos (by omega)) (ifF (show ¬ nI 2 ≤ nI j from nI_ge hj (by decide)) ⟨by decide, K⟩))
theorem xI_n (hx : ¬ qR 2 x) (K : Q (some (.int 0)) h) : zW (d + 1) m_BL_isImage e 0 [.int x] [] h Q := b_BL_isImage_0 (ifB (fun _ => ⟨by decide, K⟩) (fun c => ifT ((qR_n (by decide) hx).resolve_left c) ⟨by decide, K⟩))
theorem xS_y (hj : j < 4) (K : Q (some (.int 1)) h) : zW (d + 1) m_BL_isSheet e 0 [.int (nI j)] [] h Q := b_BL_isSheet_0 (ifF (nI_pos (by omega)) (ifF (show ¬ nI 4 ≤ nI j from nI_ge hj (by decide)) ⟨by decide, K⟩))
theorem xS_n (hx : ¬ qR 4 x) (K : Q (some (.int 0)) h) : zW (d + 1) m_BL_isSheet e 0 [.int x] [] h Q := b_BL_isSheet_0 (ifB (fun _ => ⟨by decide, K⟩) (fun c => ifT ((qR_n (by decide) hx).resolve_left c) ⟨by decide, K⟩))
theorem xL_y (hj : j < 3) (K : Q (some (.int 1)) h) : zW (d + 1) m_BL_isLane e 0 [.int (nI j)] [] h Q := b_BL_isLane_0 (ifF (nI_pos (by omega)) (ifF (show ¬ nI 3 ≤ nI j from nI_ge hj (by decide)) ⟨by decide, K⟩))
theorem xL_n (hx : ¬ qR 3 x) (K : Q (some (.int 0)) h) : zW (d + 1) m_BL_isLane e 0 [.int x] [] h Q := b_BL_isLane_0 (ifB (fun _ => ⟨by decide, K⟩) (fun c => ifT ((qR_n (by decide) hx).resolve_left c) ⟨by decide, K⟩))
/-- the Model's bounds: lo to hi -/
theorem mI_y {lo hi : Int32} {L H : Int64} (hL : L = lo.toInt64) (hH : H = hi.toInt64) (hx : lo ≤ x ∧ x ≤ hi) (K : Q (some (.int 1)) h) : zW (d + 1) m_Mo_in e 0 [.long x.toInt64, zD, .long L, zD, .long H, zD] [] h Q := cM_inC hL hH (fun _ => K) (fun w => absurd hx w)
theorem mI_n {lo hi : Int32} {L H : Int64} (hL : L = lo.toInt64) (hH : H = hi.toInt64) (hx : ¬ (lo ≤ x ∧ x ≤ hi)) (K : Q (some (.int 0)) h) : zW (d + 1) m_Mo_in e 0 [.long x.toInt64, zD, .long L, zD, .long H, zD] [] h Q := cM_inC hL hH (fun w => absurd w hx) (fun _ => K)
theorem mR_y {N : Nat} {hi : Int32} {L H : Int64} (hL : L = (0 : Int32).toInt64) (hH : H = hi.toInt64) (hN : hi = nI N) (hN2 : N < 2 ^ 30) (hj : j ≤ N) (K : Q (some (.int 1)) h) : zW (d + 1) m_Mo_in e 0 [.long (nI j).toInt64, zD, .long L, zD, .long H, zD] [] h Q := mI_y hL hH ⟨nI_pos' (by omega), by rw [hN]; exact nI_le hj (by omega)⟩ K
theorem mR_n {N : Nat} {hi : Int32} {L H : Int64} (hL : L = (0 : Int32).toInt64) (hH : H = hi.toInt64) (hN : hi = nI N) (hN2 : N < 2 ^ 30) (hx : ¬ qR (N + 1) x) (K : Q (some (.int 0)) h) : zW (d + 1) m_Mo_in e 0 [.long x.toInt64, zD, .long L, zD, .long H, zD] [] h Q := mI_n hL hH (fun w => by
  rcases qR_n (by omega) hx with q | q
  · exact absurd w.1 (Int32.not_le.mpr q)
  · rw [hN] at w
    have := Int32.le_trans q w.2
    rw [nI_leI (by omega) (by omega)] at this
    omega) K
theorem mB_y (hj : j < 16) (K : Q (some (.int 1)) h) : zW (d + 2) m_Mo_isBeacon e 0 [.int (nI j)] [] h Q := by
  refine cM_isBeacon ?_
  rw [decide_eq_true (show 0 ≤ (nI j).toInt ∧ (nI j).toInt < 16 from (qR_int (N := 16) (by decide)).mpr ⟨j, hj, rfl⟩)]
  exact K
theorem mB_n (hx : ¬ qR 16 x) (K : Q (some (.int 0)) h) : zW (d + 2) m_Mo_isBeacon e 0 [.int x] [] h Q := by
  refine cM_isBeacon ?_
  rw [decide_eq_false (show ¬ (0 ≤ x.toInt ∧ x.toInt < 16) from mt (qR_int (N := 16) (by decide)).mp hx)]
  exact K
variable {G : Nat → Value}
theorem mC_y (hG : h.2 139 = zO 10 G) (hR : mR G) (hm : msA h (nI N) l q S) (hN : N ≤ 7) (hj : j < N) (K : Q (some (.int 1)) h) : zW (d + 2) m_Mo_isClock e 0 [.ref 139, .int (nI j)] [] h Q := by
  refine cM_isClock hG hR hm hN ?_
  rw [decide_eq_true ((qR_int (N := N) (by omega)).mpr ⟨j, hj, rfl⟩)]
  exact K
theorem mC_n (hG : h.2 139 = zO 10 G) (hR : mR G) (hm : msA h (nI N) l q S) (hN : N ≤ 7) (hx : ¬ qR N x) (K : Q (some (.int 0)) h) : zW (d + 2) m_Mo_isClock e 0 [.ref 139, .int x] [] h Q := by
  refine cM_isClock hG hR hm hN ?_
  rw [decide_eq_false (mt (qR_int (N := N) (by omega)).mp hx)]
  exact K
theorem mSh_y {k lane : Nat} (hk : k < 4) (hl : lane < 3) (K : Q (some (.int 1)) h) : zW (d + 2) m_Mo_isSheet e 0 [.int (nI k), .int (nI lane)] [] h Q :=
  b_Mo_isSheet_0 (mR_y (N := 3) (hi := 3) rfl rfl rfl (by decide) (by omega) ⟨_, rfl, ifF (by decide) (mR_y (N := 2) (hi := 2) rfl rfl rfl (by decide) (by omega) ⟨_, rfl, ifF (by decide) ⟨by decide, K⟩⟩)⟩)
theorem mSh_n1 {y : Int32} (hx : ¬ qR 4 x) (K : Q (some (.int 0)) h) : zW (d + 2) m_Mo_isSheet e 0 [.int x, .int y] [] h Q :=
  b_Mo_isSheet_0 (mR_n (N := 3) (hi := 3) rfl rfl rfl (by decide) hx ⟨_, rfl, ifT rfl ⟨by decide, K⟩⟩)
theorem mSh_n2 {y : Int32} {k : Nat} (hk : k < 4) (hy : ¬ qR 3 y) (K : Q (some (.int 0)) h) : zW (d + 2) m_Mo_isSheet e 0 [.int (nI k), .int y] [] h Q :=
  b_Mo_isSheet_0 (mR_y (N := 3) (hi := 3) rfl rfl rfl (by decide) (by omega) ⟨_, rfl, ifF (by decide) (mR_n (N := 2) (hi := 2) rfl rfl rfl (by decide) hy ⟨_, rfl, ifT rfl ⟨by decide, K⟩⟩)⟩)
end C
