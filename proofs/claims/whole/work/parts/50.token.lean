/-! Tokens, and how the class goes to the next one -/
section D
variable (T : Nat → Int32) (n p : Nat)
def tkF : Nat := rnT T 32 32 (n - p) p
def tkK : Int32 := if tkF T n p = n then 0 else if 97 ≤ T (tkF T n p) ∧ T (tkF T n p) ≤ 122 then 1 else if 48 ≤ T (tkF T n p) ∧ T (tkF T n p) ≤ 57 then 2 else 3
def tkE : Nat := if tkK T n p = 0 then tkF T n p else if tkK T n p = 1 then rnT T 97 122 (n - tkF T n p) (tkF T n p) else if tkK T n p = 2 then rnT T 48 57 (n - tkF T n p) (tkF T n p) else tkF T n p + 1
def tkX : Bool := (decide (tkK T n p = 2) && decide (4 < tkE T n p - tkF T n p)) || (decide (tkK T n p = 3) && decide (T (tkF T n p) ≠ 59))
end D
/-- fields of the reader at a token (behind it only if there is one) -/
def trT (F : Nat → Value) (T : Nat → Int32) (n p : Nat) : Prop := F 6 = .int (tkK T n p) ∧ F 7 = .int (nI (tkF T n p)) ∧ (tkK T n p ≠ 0 → F 8 = .int (nI (tkE T n p)))
theorem tkF_le {T : Nat → Int32} {n p : Nat} (hp : p ≤ n) : p ≤ tkF T n p ∧ tkF T n p ≤ n := by
  have := rnT_ge T 32 32 (n - p) p
  unfold tkF
  omega
theorem tkE_le {T : Nat → Int32} {n p : Nat} (hp : p ≤ n) : tkF T n p ≤ tkE T n p ∧ tkE T n p ≤ n := by
  have hf := tkF_le (T := T) hp
  unfold tkE
  split
  · omega
  · rename_i c0
    have hlt : tkF T n p ≠ n := fun q => c0 (if_pos q)
    split
    · have := rnT_ge T 97 122 (n - tkF T n p) (tkF T n p); omega
    · split
      · have := rnT_ge T 48 57 (n - tkF T n p) (tkF T n p); omega
      · omega
theorem i32_ng {a b : Int32} : ¬ a < b ↔ b ≤ a := by
  rw [Int32.lt_iff_toInt_lt, Int32.le_iff_toInt_le]; omega
section C
variable {d : Nat} {e : Nat × Nat} {h : zH} {Q : zQ} {F : Nat → Value} {T : Nat → Int32} {n p : Nat}
theorem cR_refuse {c : Int32} {f : Nat} (hF : h.2 9 = zO 6 F) (f7 : F 7 = .int (nI f)) (K : Q (some (.int 0)) (zP h 9 (zO 6 (zU (zU F 2 (.int c)) 3 (.int (nI f)))))) : zW (d + 1) m_Text_refuse e 0 [.ref 9, .int c] [] h Q := by
  refine b_Text_refuse_0 ⟨F, hF, ?_⟩
  rintro h2 rfl
  refine ⟨_, zP_same _ _ _, _, f7, _, zP_same _ _ _, ?_⟩
  rintro h6 rfl
  rw [zP_zP]
  exact ⟨by decide, K⟩
end C
