/-! the numbers of a line: sums, FAR, what a fit says; bounds -/
def bd (a : Int64) (A : Nat) : Prop := a.toInt.natAbs ≤ A
theorem bm_id {x : Int} (h : x.natAbs < 2 ^ 63) : x.bmod (2 ^ 64) = x := Int.bmod_eq_of_le_mul_two (by omega) (by omega)
theorem bd.mono {a : Int64} {A B : Nat} (h : bd a A) (hAB : A ≤ B) : bd a B := Nat.le_trans h hAB
theorem bd_add {a b : Int64} {A B : Nat} (ha : bd a A) (hb : bd b B) (h : A + B < 2 ^ 63) : (a + b).toInt = a.toInt + b.toInt ∧ bd (a + b) (A + B) := by
  have h1 : (a.toInt + b.toInt).natAbs ≤ A + B := Nat.le_trans (Int.natAbs_add_le _ _) (Nat.add_le_add ha hb)
  have e : (a + b).toInt = a.toInt + b.toInt := by rw [Int64.toInt_add, bm_id (by omega)]
  exact ⟨e, by unfold bd; rw [e]; exact h1⟩
theorem bd_sub {a b : Int64} {A B : Nat} (ha : bd a A) (hb : bd b B) (h : A + B < 2 ^ 63) : (a - b).toInt = a.toInt - b.toInt ∧ bd (a - b) (A + B) := by
  have h1 : (a.toInt - b.toInt).natAbs ≤ A + B := Nat.le_trans (Int.natAbs_sub_le _ _) (Nat.add_le_add ha hb)
  have e : (a - b).toInt = a.toInt - b.toInt := by rw [Int64.toInt_sub, bm_id (by omega)]
  exact ⟨e, by unfold bd; rw [e]; exact h1⟩
theorem bd_mul {a b : Int64} {A B : Nat} (ha : bd a A) (hb : bd b B) (h : A * B < 2 ^ 63) : (a * b).toInt = a.toInt * b.toInt ∧ bd (a * b) (A * B) := by
  have h1 : (a.toInt * b.toInt).natAbs ≤ A * B := by rw [Int.natAbs_mul]; exact Nat.mul_le_mul ha hb
  have e : (a * b).toInt = a.toInt * b.toInt := by rw [Int64.toInt_mul, bm_id (by omega)]
  exact ⟨e, by unfold bd; rw [e]; exact h1⟩
theorem bd_neg {a : Int64} {A : Nat} (ha : bd a A) (h : A < 2 ^ 63) : (-a).toInt = -a.toInt ∧ bd (-a) A := by
  have h1 : (-a.toInt).natAbs ≤ A := by rw [Int.natAbs_neg]; exact ha
  have e : (-a).toInt = -a.toInt := by rw [Int64.toInt_neg, bm_id (by omega)]
  exact ⟨e, by unfold bd; rw [e]; exact h1⟩
theorem bd_lN {n : Nat} (h : n < 2 ^ 63) : (lN n).toInt = n ∧ bd (lN n) n := by
  have e : (lN n).toInt = n := Int64.toInt_ofNat_of_lt h
  exact ⟨e, by unfold bd; rw [e]; exact Nat.le_refl _⟩
/-- sums over what is left -/
def smL (g : Nat → Int64) (L : Nat → Bool) : Nat → Int64
  | 0 => 0
  | k + 1 => if L k = true then smL g L k + g k else smL g L k
def smI (g : Nat → Int) (L : Nat → Bool) : Nat → Int
  | 0 => 0
  | k + 1 => if L k = true then smI g L k + g k else smI g L k
theorem smL_ok {g : Nat → Int64} {L : Nat → Bool} {B : Nat} (hB : 16 * B < 2 ^ 63) : ∀ k, k ≤ 16 → (∀ b, b < k → L b = true → bd (g b) B) → (smL g L k).toInt = smI (fun b => (g b).toInt) L k ∧ bd (smL g L k) (k * B)
  | 0, _, _ => ⟨rfl, by unfold bd smL; exact Nat.zero_le _⟩
  | k + 1, hk, hg => by
    obtain ⟨h1, h2⟩ := smL_ok hB k (by omega) (fun b hb => hg b (by omega))
    unfold smL smI
    by_cases c : L k = true
    · rw [if_pos c, if_pos c]
      have hk2 : k * B + B = (k + 1) * B := by rw [Nat.succ_mul]
      have hle : (k + 1) * B ≤ 16 * B := Nat.mul_le_mul_right _ hk
      obtain ⟨e1, e2⟩ := bd_add h2 (hg k (by omega) c) (by omega)
      rw [hk2] at e2
      exact ⟨by rw [e1, h1], e2⟩
    · rw [if_neg c, if_neg c]
      exact ⟨h1, h2.mono (Nat.mul_le_mul_right _ (by omega))⟩
/-- the sum of the squares of what is off, and that N times the squares is not below the square -/
theorem sm_sq {g : Nat → Int} {L : Nat → Bool} (a : Int) : ∀ k, 0 ≤ smI (fun b => g b * g b) L k - 2 * a * smI g L k + (cnL L k : Int) * (a * a)
  | 0 => by simp [smI, cnL]
  | k + 1 => by
    have ih := sm_sq (g := g) (L := L) a k
    unfold smI cnL
    by_cases c : L k = true
    · rw [if_pos c, if_pos c, if_pos c]
      have hs : 0 ≤ (g k - a) * (g k - a) := by
        rcases Int.le_total 0 (g k - a) with q | q
        · exact Int.mul_nonneg q q
        · exact Int.mul_nonneg_of_nonpos_of_nonpos q q
      have e : smI (fun b => g b * g b) L k + g k * g k - 2 * a * (smI g L k + g k) + ((cnL L k + 1 : Nat) : Int) * (a * a) = (smI (fun b => g b * g b) L k - 2 * a * smI g L k + (cnL L k : Int) * (a * a)) + (g k - a) * (g k - a) := by
        rw [Int.natCast_add]
        simp only [Int.mul_add, Int.add_mul, Int.mul_sub, Int.sub_mul, Int.natCast_one, Int.one_mul]
        have : a * g k = g k * a := Int.mul_comm _ _
        have e2 : 2 * a * g k = a * g k + a * g k := by rw [Int.mul_assoc, Int.two_mul]
        omega
      rw [e]
      exact Int.add_nonneg ih hs
    · rw [if_neg c, if_neg c, if_neg c]
      exact ih
theorem sm_cs {g : Nat → Int} {L : Nat → Bool} : ∀ k, 0 ≤ (cnL L k : Int) * smI (fun b => g b * g b) L k - smI g L k * smI g L k
  | 0 => by simp [smI, cnL]
  | k + 1 => by
    have ih := sm_cs (g := g) (L := L) k
    have hq := sm_sq (g := g) (L := L) (g k) k
    unfold smI cnL
    by_cases c : L k = true
    · rw [if_pos c, if_pos c, if_pos c]
      have e : ((cnL L k + 1 : Nat) : Int) * (smI (fun b => g b * g b) L k + g k * g k) - (smI g L k + g k) * (smI g L k + g k) = ((cnL L k : Int) * smI (fun b => g b * g b) L k - smI g L k * smI g L k) + (smI (fun b => g b * g b) L k - 2 * g k * smI g L k + (cnL L k : Int) * (g k * g k)) := by
        rw [Int.natCast_add]
        simp only [Int.mul_add, Int.add_mul, Int.natCast_one, Int.one_mul]
        have h1 : smI g L k * g k = g k * smI g L k := Int.mul_comm _ _
        have e2 : 2 * g k * smI g L k = g k * smI g L k + g k * smI g L k := by rw [Int.mul_assoc, Int.two_mul]
        omega
      rw [e]
      exact Int.add_nonneg ih hq
    · rw [if_neg c, if_neg c, if_neg c]
      exact ih
/-- stamps are as told -/
def StK (S : Nat → Int32) : Prop := ∀ k, k < 112 → S k = -4 ∨ (0 ≤ S k ∧ S k ≤ 9999)
def pX (S : Nat → Int32) (r b : Nat) : Int64 := (S (16 * r + b)).toInt64
/-- what is left are points that both heard -/
def PtL (S : Nat → Int32) (r s : Nat) (L : Nat → Bool) : Prop := ∀ b, b < 16 → L b = true → S (16 * r + b) ≠ -4 ∧ S (16 * s + b) ≠ -4
theorem pX_bd {S : Nat → Int32} (hS : StK S) {r b : Nat} (hr : r < 7) (hb : b < 16) (h : S (16 * r + b) ≠ -4) : bd (pX S r b) 9999 ∧ 0 ≤ (pX S r b).toInt := by
  rcases hS (16 * r + b) (by omega) with q | ⟨q1, q2⟩
  · exact absurd q h
  · have h1 : (0 : Int) ≤ (S (16 * r + b)).toInt := by simpa using Int32.le_iff_toInt_le.mp q1
    have h2 : (S (16 * r + b)).toInt ≤ 9999 := Int32.le_iff_toInt_le.mp q2
    unfold bd pX
    rw [Int32.toInt_toInt64]
    omega
section M
variable (S : Nat → Int32) (r s : Nat) (L : Nat → Bool)
def lX : Int64 := smL (pX S r) L 16
def lSX : Int64 := smL (fun b => pX S r b * pX S r b) L 16
def lSY : Int64 := smL (fun b => pX S r b * pX S s b) L 16
def lxx : Int64 := lN (cnL L 16) * lSX S r L - lX S r L * lX S r L
def lxy : Int64 := lN (cnL L 16) * lSY S r s L - lX S r L * lX S s L
def lden : Int64 := lN (cnL L 16) * lxx S r L
def abL (f : Int64) : Int64 := if 0 ≤ f then f else -f
def lfr (b : Nat) : Int64 := pX S s b * lden S r L - lX S s L * lxx S r L - lxy S r s L * (lN (cnL L 16) * pX S r b - lX S r L)
def lfar (b : Nat) : Int64 := abL (lfr S r s L b)
/-- the farthest of the first k: its beacon, its FAR -/
def ffL : Nat → Int32 × Int64
  | 0 => (-4, -1)
  | b + 1 => if L b = true ∧ (ffL b).2 < lfar S r s L b then (nI b, lfar S r s L b) else ffL b
def lkd (li le : Int32) : Int32 := if nI (cnL L 16) < le ∨ lxx S r L = 0 then 0 else if (ffL S r s L 16).2 ≤ li.toInt64 * lden S r L then 2 else if nI (cnL L 16) = le then 1 else -1
end M
/-- a fit: what it is, what is left, how many were struck, which -/
def fitL (S : Nat → Int32) (r s : Nat) (li le : Int32) : Nat → (Nat → Bool) → Nat → (Nat → Int32) → Int32 × (Nat → Bool) × Nat × (Nat → Int32)
  | 0, L, c, sk => (-1, L, c, sk)
  | k + 1, L, c, sk => if lkd S r s L li le = -1 then fitL S r s li le k (rmL L (ffL S r s L 16).1.toNatClampNeg) (c + 1) (zU sk c (ffL S r s L 16).1) else (lkd S r s L li le, L, c, sk)
section M
variable {S : Nat → Int32} {r s : Nat} {L : Nat → Bool}
theorem lX_bd (hS : StK S) (hr : r < 7) (hL : ∀ b, b < 16 → L b = true → S (16 * r + b) ≠ -4) : (lX S r L).toInt = smI (fun b => (pX S r b).toInt) L 16 ∧ bd (lX S r L) 159984 := smL_ok (B := 9999) (by decide) 16 (Nat.le_refl _) (fun b hb hb2 => (pX_bd hS hr hb (hL b hb hb2)).1)
theorem cn16 : bd (lN (cnL L 16)) 16 ∧ (lN (cnL L 16)).toInt = (cnL L 16 : Int) := by
  have := cnL_le L 16
  obtain ⟨h1, h2⟩ := bd_lN (n := cnL L 16) (by omega)
  exact ⟨h2.mono this, h1⟩
theorem smI_congr {f g : Nat → Int} : ∀ k, (∀ b, b < k → L b = true → f b = g b) → smI f L k = smI g L k
  | 0, _ => rfl
  | k + 1, h => by
    unfold smI
    rw [smI_congr k (fun b hb => h b (by omega))]
    by_cases c : L k = true
    · rw [if_pos c, if_pos c, h k (by omega) c]
    · rw [if_neg c, if_neg c]
theorem lSX_bd (hS : StK S) (hr : r < 7) (hs : s < 7) (hL : PtL S r s L) : bd (lSY S r s L) 1599680016 := (smL_ok (B := 99980001) (by decide) 16 (Nat.le_refl _) (fun b hb hb2 => (bd_mul (pX_bd hS hr hb (hL b hb hb2).1).1 (pX_bd hS hs hb (hL b hb hb2).2).1 (by decide)).2)).2
/-- XX: no overflow, not below 0 -/
theorem lxx_ok (hS : StK S) (hr : r < 7) (hL : ∀ b, b < 16 → L b = true → S (16 * r + b) ≠ -4) : bd (lxx S r L) 51189760512 ∧ 0 ≤ (lxx S r L).toInt := by
  obtain ⟨hX1, hX2⟩ := lX_bd hS hr hL
  have hq := smL_ok (g := fun b => pX S r b * pX S r b) (L := L) (B := 99980001) (by decide) 16 (Nat.le_refl _) (fun b hb hb2 => (bd_mul (pX_bd hS hr hb (hL b hb hb2)).1 (pX_bd hS hr hb (hL b hb hb2)).1 (by decide)).2)
  obtain ⟨c1, c2⟩ := cn16 (L := L)
  obtain ⟨e1, e2⟩ := bd_mul c1 hq.2 (by decide)
  obtain ⟨e3, e4⟩ := bd_mul hX2 hX2 (by decide)
  obtain ⟨e5, e6⟩ := bd_sub e2 e4 (by decide)
  refine ⟨e6.mono (by decide), ?_⟩
  have e7 : (lxx S r L).toInt = (cnL L 16 : Int) * smI (fun b => (pX S r b).toInt * (pX S r b).toInt) L 16 - smI (fun b => (pX S r b).toInt) L 16 * smI (fun b => (pX S r b).toInt) L 16 := by
    show (lN (cnL L 16) * smL (fun b => pX S r b * pX S r b) L 16 - lX S r L * lX S r L).toInt = _
    rw [e5, e1, e3, hX1, c2, hq.1]
    congr 2
    exact smI_congr 16 (fun b hb hb2 => (bd_mul (pX_bd hS hr hb (hL b hb hb2)).1 (pX_bd hS hr hb (hL b hb hb2)).1 (by decide)).1)
  rw [e7]
  exact sm_cs 16
theorem lxy_bd (hS : StK S) (hr : r < 7) (hs : s < 7) (hL : PtL S r s L) : bd (lxy S r s L) 51189760512 := by
  have hX := (lX_bd hS hr (fun b hb h => (hL b hb h).1)).2
  have hY := (lX_bd hS hs (fun b hb h => (hL b hb h).2)).2
  obtain ⟨c1, c2⟩ := cn16 (L := L)
  exact ((bd_sub (bd_mul c1 (lSX_bd hS hr hs hL) (by decide)).2 (bd_mul hX hY (by decide)).2 (by decide)).2).mono (by decide)
/-- DEN -/
theorem lden_ok (hS : StK S) (hr : r < 7) (hL : ∀ b, b < 16 → L b = true → S (16 * r + b) ≠ -4) : bd (lden S r L) 819036168192 ∧ (lden S r L).toInt = (cnL L 16 : Int) * (lxx S r L).toInt := by
  obtain ⟨c1, c2⟩ := cn16 (L := L)
  obtain ⟨e1, e2⟩ := bd_mul c1 (lxx_ok hS hr hL).1 (by decide)
  exact ⟨e2.mono (by decide), by show (lN (cnL L 16) * lxx S r L).toInt = _; rw [e1, c2]⟩
theorem lden_pos (hS : StK S) (hr : r < 7) (hL : ∀ b, b < 16 → L b = true → S (16 * r + b) ≠ -4) (hn : 0 < cnL L 16) (hx : lxx S r L ≠ 0) : 0 < (lden S r L).toInt := by
  rw [(lden_ok hS hr hL).2]
  have h1 := (lxx_ok hS hr hL).2
  have h2 : (lxx S r L).toInt ≠ 0 := fun q => hx (Int64.toInt_inj.mp (by rw [q]; rfl))
  exact Int.mul_pos (by omega) (by omega)
/-- FAR of a point that both heard: no overflow -/
theorem lfr_bd (hS : StK S) (hr : r < 7) (hs : s < 7) (hL : PtL S r s L) {b : Nat} (hb : b < 16) (h1 : S (16 * r + b) ≠ -4) (h2 : S (16 * s + b) ≠ -4) : bd (lfr S r s L b) 40000000000000000 := by
  have hX := (lX_bd hS hr (fun b hb h => (hL b hb h).1)).2
  have hY := (lX_bd hS hs (fun b hb h => (hL b hb h).2)).2
  have hxx := (lxx_ok hS hr (fun b hb h => (hL b hb h).1)).1
  have hd := (lden_ok hS hr (fun b hb h => (hL b hb h).1)).1
  have hxy := lxy_bd hS hr hs hL
  obtain ⟨c1, c2⟩ := cn16 (L := L)
  have g1 := (bd_mul (pX_bd hS hs hb h2).1 hd (by decide)).2
  have g2 := (bd_mul hY hxx (by decide)).2
  have g3 := (bd_sub (bd_mul c1 (pX_bd hS hr hb h1).1 (by decide)).2 hX (by decide)).2
  have g4 := (bd_mul hxy g3 (by decide)).2
  exact (bd_sub (bd_sub g1 g2 (by decide)).2 g4 (by decide)).2.mono (by decide)
theorem abL_ok {f : Int64} {A : Nat} (h : bd f A) (hA : A < 2 ^ 63) : bd (abL f) A ∧ 0 ≤ (abL f).toInt := by
  unfold abL
  by_cases c : (0 : Int64) ≤ f
  · rw [if_pos c]
    exact ⟨h, by simpa using Int64.le_iff_toInt_le.mp c⟩
  · rw [if_neg c]
    obtain ⟨e1, e2⟩ := bd_neg h hA
    refine ⟨e2, ?_⟩
    have : f.toInt < 0 := by
      have := Int64.lt_iff_toInt_lt.mp (Int64.not_le.mp c)
      simpa using this
    omega
theorem lfar_ok (hS : StK S) (hr : r < 7) (hs : s < 7) (hL : PtL S r s L) {b : Nat} (hb : b < 16) (h1 : S (16 * r + b) ≠ -4) (h2 : S (16 * s + b) ≠ -4) : bd (lfar S r s L b) 40000000000000000 ∧ 0 ≤ (lfar S r s L b).toInt := abL_ok (lfr_bd hS hr hs hL hb h1 h2) (by decide)
/-- the farthest is a point that is left, if there is one -/
theorem ff_ok (hS : StK S) (hr : r < 7) (hs : s < 7) (hL : PtL S r s L) : ∀ k, k ≤ 16 → (cnL L k = 0 ∧ ffL S r s L k = (-4, -1)) ∨ ∃ f, f < k ∧ L f = true ∧ ffL S r s L k = (nI f, lfar S r s L f)
  | 0, _ => Or.inl ⟨rfl, rfl⟩
  | k + 1, hk => by
    have ih := ff_ok hS hr hs hL k (by omega)
    unfold ffL cnL
    by_cases c : L k = true
    · right
      by_cases c2 : (ffL S r s L k).2 < lfar S r s L k
      · exact ⟨k, by omega, c, by rw [if_pos ⟨c, c2⟩]⟩
      · rw [if_neg (fun q => c2 q.2)]
        rcases ih with ⟨-, e⟩ | ⟨f, h1, h2, h3⟩
        · exfalso
          apply c2
          rw [e]
          have := (lfar_ok hS hr hs hL (show k < 16 by omega) (hL k (by omega) c).1 (hL k (by omega) c).2).2
          rw [Int64.lt_iff_toInt_lt]
          show (-1 : Int64).toInt < _
          have e1 : (-1 : Int64).toInt = -1 := by decide
          omega
        · exact ⟨f, by omega, h2, h3⟩
    · rw [if_neg c, if_neg (fun q => c q.1)]
      rcases ih with ⟨e0, e⟩ | ⟨f, h1, h2, h3⟩
      · exact Or.inl ⟨by omega, e⟩
      · exact Or.inr ⟨f, by omega, h2, h3⟩
theorem cnL_rm {f : Nat} : ∀ k, (cnL (rmL L f) k = cnL L k ∧ k ≤ f) ∨ (f < k ∧ cnL (rmL L f) k + (if L f = true then 1 else 0) = cnL L k)
  | 0 => Or.inl ⟨rfl, Nat.zero_le _⟩
  | k + 1 => by
    have ih := cnL_rm (f := f) k
    unfold cnL
    by_cases e : k = f
    · subst e
      right
      have hr : rmL L k k = false := by simp [rmL]
      rcases ih with ⟨h1, h2⟩ | ⟨h1, h2⟩
      · rw [hr, h1]
        refine ⟨by omega, ?_⟩
        rfl
      · omega
    · have hr : rmL L f k = L k := by
        unfold rmL
        have : (k == f) = false := by simp; exact e
        rw [this]; simp
      rw [hr]
      rcases ih with ⟨h1, h2⟩ | ⟨h1, h2⟩
      · exact Or.inl ⟨by rw [h1], by omega⟩
      · exact Or.inr ⟨by omega, by omega⟩
theorem PtL_rm {f : Nat} (h : PtL S r s L) : PtL S r s (rmL L f) := fun b hb hb2 => h b hb (by unfold rmL at hb2; simp at hb2; exact hb2.1)
end M
