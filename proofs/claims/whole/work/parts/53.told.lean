/-! What a text tells: bounds, and that each line goes on -/
def cO (c : Int32) : Prop := c = 1 ∨ c = 2 ∨ c = 3 ∨ c = 4
theorem cO.ne {c : Int32} (h : cO c) : ¬ c = 0 := by rcases h with rfl | rfl | rfl | rfl <;> decide
theorem cO.pos {c : Int32} (h : cO c) : ¬ c ≤ 0 := by rcases h with rfl | rfl | rfl | rfl <;> decide
section P
variable {T : Nat → Int32} {n p p' : Nat} {lo hi v c : Int32} {w : Nat}
theorem nmP_r (h : nmP T n lo hi p = .inr (v, p')) : ¬ v < lo ∧ ¬ hi < v ∧ p' = tkE T n p ∧ tkX T n p = false ∧ tkK T n p = 2 ∧ v = tkW T n p := by
  unfold nmP at h
  split at h
  · cases h
  · rename_i cx
    split at h
    · rename_i ck
      split at h
      · cases h
      · rename_i c
        cases h
        exact ⟨fun q => c (Or.inl q), fun q => c (Or.inr q), rfl, by simpa using cx, ck, rfl⟩
    · cases h
theorem nmP_l (h : nmP T n lo hi p = .inl (c, w)) : cO c := by
  unfold nmP at h
  split at h
  · cases h; exact Or.inl rfl
  · split at h
    · split at h
      · cases h; exact Or.inr (Or.inr (Or.inl rfl))
      · cases h
    · cases h; exact Or.inr (Or.inl rfl)
theorem sgP_r (h : sgP T n p = .inr p') : p' = tkE T n p ∧ tkX T n p = false ∧ tkK T n p = 3 := by
  unfold sgP at h
  split at h
  · cases h
  · rename_i cx
    split at h
    · rename_i ck
      cases h
      exact ⟨rfl, by simpa using cx, ck⟩
    · cases h
theorem sgP_l (h : sgP T n p = .inl (c, w)) : cO c := by
  unfold sgP at h
  split at h
  · cases h; exact Or.inl rfl
  · split at h
    · cases h
    · cases h; exact Or.inr (Or.inl rfl)
/-- what the text has told keeps its bounds -/
def rdI (x : rdS) : Prop := (∃ N, 1 ≤ N ∧ N ≤ 7 ∧ x.2.1.1 = nI N) ∧ (0 ≤ x.2.1.2.1 ∧ x.2.1.2.1 ≤ 99) ∧ (2 ≤ x.2.1.2.2 ∧ x.2.1.2.2 ≤ 6) ∧ StK x.2.2.1
theorem sgO_r {x y : rdS} (h : sgO T n p x = .inr y) : y.2 = x.2 ∧ y.1 = tkE T n p := by
  unfold sgO at h
  split at h
  · cases h
  · rename_i p2 e
    cases h
    exact ⟨rfl, (sgP_r e).1⟩
theorem sgO_l {x : rdS} (h : sgO T n p x = .inl (c, w)) : cO c := by
  unfold sgO at h
  split at h
  · rename_i f e
    cases h
    exact sgP_l e
  · cases h
theorem nmP_le (hp : p ≤ n) (h : nmP T n lo hi p = .inr (v, p')) : p ≤ p' ∧ p' ≤ n := by
  have h1 := (nmP_r h).2.2.1
  have hf := tkF_le (T := T) hp
  have he := tkE_le (T := T) hp
  rw [h1]
  omega
theorem sgO_le {x y : rdS} (hp : p ≤ n) (h : sgO T n p x = .inr y) : p ≤ y.1 ∧ y.1 ≤ n := by
  have h1 := (sgO_r h).2
  have hf := tkF_le (T := T) hp
  have he := tkE_le (T := T) hp
  rw [h1]
  omega
theorem nmP_b (h : nmP T n lo hi p = .inr (v, p')) : lo ≤ v ∧ v ≤ hi := ⟨Int32.not_lt.mp (nmP_r h).1, Int32.not_lt.mp (nmP_r h).2.1⟩
theorem StK_zU {S : Nat → Int32} (h : StK S) {k : Nat} {t : Int32} (ht : 0 ≤ t ∧ t ≤ 9999) : StK (zU S k t) := fun j hj => by
  unfold zU
  split
  · exact Or.inr ht
  · exact h j hj
theorem lnP_inv {x y : rdS} (hx : rdI x) (hp : x.1 ≤ n) (h : lnP T n x = .inr y) : rdI y ∧ x.1 < y.1 ∧ y.1 ≤ n := by
  have hf := tkF_le (T := T) hp
  have he := tkE_le (T := T) hp
  unfold lnP at h
  split at h
  · rename_i c
    have hl : tkE T n x.1 = tkF T n x.1 + 4 := (nmB_of c).2.1
    unfold heP at h
    split at h
    · cases h
    · rename_i b p1 e1
      have g1 := nmP_le he.2 e1
      split at h
      · cases h
      · rename_i r p2 e2
        have g2 := nmP_le g1.2 e2
        split at h
        · split at h
          · cases h
          · rename_i t p3 e3
            have g3 := nmP_le g2.2 e3
            have g4 := sgO_le g3.2 h
            refine ⟨?_, by omega, by omega⟩
            unfold rdI
            rw [(sgO_r h).1]
            exact ⟨hx.1, hx.2.1, hx.2.2.1, StK_zU hx.2.2.2 (nmP_b e3)⟩
        · cases h
  · split at h
    · rename_i c
      have hl : tkE T n x.1 = tkF T n x.1 + 5 := (nmB_of c).2.1
      unfold lmP at h
      split at h
      · cases h
      · split at h
        · cases h
        · rename_i v p1 e1
          have g1 := nmP_le he.2 e1
          have g4 := sgO_le g1.2 h
          refine ⟨?_, by omega, by omega⟩
          unfold rdI
          rw [(sgO_r h).1]
          exact ⟨hx.1, nmP_b e1, hx.2.2.1, hx.2.2.2⟩
    · split at h
      · rename_i c
        have hl : tkE T n x.1 = tkF T n x.1 + 5 := (nmB_of c).2.1
        unfold lsP at h
        split at h
        · cases h
        · split at h
          · cases h
          · rename_i v p1 e1
            have g1 := nmP_le he.2 e1
            have g4 := sgO_le g1.2 h
            refine ⟨?_, by omega, by omega⟩
            unfold rdI
            rw [(sgO_r h).1]
            exact ⟨hx.1, hx.2.1, nmP_b e1, hx.2.2.2⟩
      · cases h
theorem hdP_inv {l q : Int32} {y : rdS} (hl : 0 ≤ l ∧ l ≤ 99) (hq : 2 ≤ q ∧ q ≤ 6) (h : hdP T n l q = .inr y) : rdI y ∧ y.1 ≤ n := by
  have hp : 0 ≤ n := Nat.zero_le _
  have he := tkE_le (T := T) hp
  unfold hdP at h
  split at h
  · cases h
  · split at h
    · split at h
      · cases h
      · rename_i v p1 e1
        have g1 := nmP_le he.2 e1
        have g4 := sgO_le g1.2 h
        refine ⟨?_, g4.2⟩
        unfold rdI
        rw [(sgO_r h).1]
        have t := nmP_b e1
        obtain ⟨j, hj, rfl⟩ := nI_of2 (M := 7) (n := 7) rfl (fun w => absurd (Int32.lt_of_lt_of_le w (by decide : (0 : Int32) ≤ 1)) (Int32.not_lt.mpr t.1)) t.2
        have := (nI_leI (a := 1) (b := j) (by omega) (by omega)).mp t.1
        exact ⟨⟨j, by omega, hj, rfl⟩, hl, hq, fun _ _ => Or.inl rfl⟩
    · cases h
theorem rdP_inv : ∀ {k : Nat} {x y : rdS}, rdI x → x.1 ≤ n → rdP T n k x = .inr y → rdI y
  | 0, x, y, hx, _, h => by cases h; exact hx
  | k + 1, x, y, hx, hp, h => by
    unfold rdP at h
    split at h
    · cases h
    · split at h
      · cases h; exact hx
      · split at h
        · cases h
        · rename_i z e
          obtain ⟨q1, -, q3⟩ := lnP_inv hx hp e
          exact rdP_inv q1 q3 h
theorem txP_inv {l q : Int32} {y : rdS} (hl : 0 ≤ l ∧ l ≤ 99) (hq : 2 ≤ q ∧ q ≤ 6) (h : txP T n l q = .inr y) : rdI y := by
  unfold txP at h
  split at h
  · cases h
  · rename_i z e
    obtain ⟨q1, q2⟩ := hdP_inv hl hq e
    exact rdP_inv q1 q2 h
end P
