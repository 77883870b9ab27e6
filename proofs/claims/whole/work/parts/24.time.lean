/-! Time -/
def tmA (h : zH) (v : Int64) (b : Bool) : Prop := ∃ F, h.2 123 = zO 7 F ∧ F 0 = .long v ∧ F 1 = .int (b01 b)
theorem b01_01 (b : Bool) : b01 b = 0 ∨ b01 b = 1 := by cases b <;> decide
section C
variable {d : Nat} {e : Nat × Nat} {h : zH} {Q : zQ} {v a b : Int64} {o : Bool}
theorem tmA.put {F : Nat → Value} (hF : h.2 123 = zO 7 F) (h0 : F 0 = .long v) : tmA (zP h 123 (zO 7 (zU F 1 (.int 1)))) v true := ⟨_, zP_same _ _ _, h0, rfl⟩
theorem cX_startAt (ht : ∃ F, h.2 123 = zO 7 F) (K : ∀ h', tmA h' v false → zFr (fun z => z = 123) h h' → Q none h') : zW (d + 1) m_Time_startAt e 0 [.ref 123, .long v, zD] [] h Q := by
  obtain ⟨F, hF⟩ := ht
  refine b_Time_startAt_0 ⟨F, hF, ?_⟩
  rintro h2 rfl
  refine ⟨by decide, _, zP_same _ _ _, ?_⟩
  rintro h4 rfl
  rw [zP_zP]
  exact K _ ⟨_, zP_same _ _ _, rfl, rfl⟩ (zFr.put rfl)
theorem cX_product (ht : tmA h v o) (ha : bd a 51189760512) (K : ∀ h', tmA h' v (o || mulO a b) → zFr (fun z => z = 123) h h' → Q (some (.long (a * b))) h') : zW (d + 1) m_Time_product e 0 [.ref 123, .long a, zD, .long b, zD, zD, zD] [] h Q := by
  obtain ⟨F, hF, f0, f1⟩ := id ht
  refine b_Time_product_0 (ifB (fun c => ?_) (fun c => ?_))
  · have hb : b.toInt = 0 := by rw [lc_eq.mp c]; rfl
    rw [mulO_0 hb, Bool.or_false] at K
    exact K h ht zFr.rf
  · have hb0 : b ≠ 0 := fun q => c (lc_eq.mpr q)
    have hb : b.toInt ≠ 0 := fun q => hb0 (Int64.toInt_inj.mp (by rw [q]; rfl))
    have hm := mul_div (a := a) hb (fun q => by have := (mul_ex q).2; unfold bd at ha; omega)
    refine ⟨hb0, ifB (fun c2 => ?_) (fun c2 => ⟨by decide, F, hF, ?_⟩)⟩
    · rw [hm.mp (lc_eq.mp c2), Bool.or_false] at K
      exact K h ht zFr.rf
    · rintro h2 rfl
      have : mulO a b = true := by
        cases q : mulO a b with
        | true => rfl
        | false => exact absurd (lc_eq.mpr (hm.mpr q)) c2
      rw [this, Bool.or_true] at K
      exact K _ (tmA.put hF f0) (zFr.put rfl)
theorem cX_total (ht : tmA h v o) (K : ∀ h', tmA h' v (o || addO a b) → zFr (fun z => z = 123) h h' → Q (some (.long (a + b))) h') : zW (d + 1) m_Time_total e 0 [.ref 123, .long a, zD, .long b, zD, zD, zD] [] h Q := by
  obtain ⟨F, hF, f0, f1⟩ := id ht
  have hm := add_ov a b
  refine b_Time_total_0 (ifB (fun c => ?_) (fun c => ⟨by decide, F, hF, ?_⟩))
  · have c' := Int64.le_iff_toInt_le.mp (lc_ge.mp c)
    have : addO a b = false := by
      cases q : addO a b with
      | false => rfl
      | true => have := hm.mpr q; rw [Int64.toInt_zero] at c'; omega
    rw [this, Bool.or_false] at K
    exact K h ht zFr.rf
  · rintro h2 rfl
    have : addO a b = true := hm.mp (by
      have c' := mt lc_ge.mpr c
      rw [Int64.le_iff_toInt_le, Int64.toInt_zero] at c'
      omega)
    rw [this, Bool.or_true] at K
    exact K _ (tmA.put hF f0) (zFr.put rfl)
theorem cX_difference (ht : tmA h v o) (K : ∀ h', tmA h' v (o || subO a b) → zFr (fun z => z = 123) h h' → Q (some (.long (a - b))) h') : zW (d + 1) m_Time_difference e 0 [.ref 123, .long a, zD, .long b, zD, zD, zD] [] h Q := by
  obtain ⟨F, hF, f0, f1⟩ := id ht
  have hm := sub_ov a b
  refine b_Time_difference_0 (ifB (fun c => ?_) (fun c => ⟨by decide, F, hF, ?_⟩))
  · have c' := Int64.le_iff_toInt_le.mp (lc_ge.mp c)
    have : subO a b = false := by
      cases q : subO a b with
      | false => rfl
      | true => have := hm.mpr q; rw [Int64.toInt_zero] at c'; omega
    rw [this, Bool.or_false] at K
    exact K h ht zFr.rf
  · rintro h2 rfl
    have : subO a b = true := hm.mp (by
      have c' := mt lc_ge.mpr c
      rw [Int64.le_iff_toInt_le, Int64.toInt_zero] at c'
      omega)
    rw [this, Bool.or_true] at K
    exact K _ (tmA.put hF f0) (zFr.put rfl)
theorem cX_subtract (ht : tmA h v o) (K : ∀ h', tmA h' (v - a) (o || subO v a) → zFr (fun z => z = 123) h h' → Q none h') : zW (d + 2) m_Time_subtract e 0 [.ref 123, .long a, zD] [] h Q := by
  obtain ⟨F, hF, f0, f1⟩ := id ht
  refine b_Time_subtract_0 ⟨F, hF, _, f0, ⟨F, hF⟩, cX_difference ht (fun h' ht' hf' => ?_)⟩
  obtain ⟨F', hF', g0, g1⟩ := ht'
  refine ⟨_, rfl, F', hF', ?_⟩
  rintro h7 rfl
  exact K _ ⟨_, zP_same _ _ _, rfl, g1⟩ (hf'.trans (zFr.put rfl))
theorem i64_ne0 {y : Int64} (hy : 0 < y.toInt) : y ≠ 0 := fun q => by rw [q] at hy; exact absurd hy (by decide)
theorem cX_nearest (hy : 0 < b.toInt) (hB : bd b 819036168192) (K : Q (some (.long (nrL a b))) h) : zW (d + 2) m_Time_nearest e 0 [.long a, zD, .long b, zD, zD, zD, zD, zD] [] h Q := by
  obtain ⟨n1, n2, n3, n4⟩ := nr_ok (v := a) hy
  have hb0 := i64_ne0 hy
  have cm : ∀ {x : Int64} {z : Int}, x.toInt = z → 0 ≤ z → z < b.toInt → ((lg_cmp x (b - x)) < 0 ↔ 2 * z < b.toInt) := fun {x z} e1 h1 h2 => by
    have hx : bd x 819036168192 := by unfold bd at hB ⊢; omega
    rw [lc_lt, Int64.lt_iff_toInt_lt, (bd_sub hB hx (by decide)).1]
    omega
  have fin : ∀ {x q : Int64} {z : Int}, x.toInt = z → 0 ≤ z → z < b.toInt → Q (some (.long (if 2 * z < b.toInt then q else q + 1))) h → ∃ x6, (some (.long x) : Option Value) = some (.long x6) ∧ (if (lg_cmp x6 (b - x6)) < 0 then Q (some (.long q)) h else Q (some (.long (q + 1))) h) := fun {x q z} e1 h1 h2 k => by
    refine ⟨x, rfl, ?_⟩
    by_cases c : 2 * z < b.toInt
    · rw [if_pos c] at k
      exact ifT ((cm e1 h1 h2).mpr c) k
    · rw [if_neg c] at k
      exact ifF (fun q => c ((cm e1 h1 h2).mp q)) k
  have sgn := sg_xor a b
  refine b_Time_nearest_0 (ifT (lc_gt.mpr (Int64.lt_iff_toInt_lt.mpr hy)) (b_JMath_floorDiv_0 ⟨hb0, ?_⟩))
  unfold nrL at K
  refine ifB (fun c => ?_) (fun c => ?_)
  · have c' := Int64.le_iff_toInt_le.mp (lc_ge.mp c)
    rw [Int64.toInt_zero] at c'
    have hr := n3 (by omega)
    rw [if_pos hr] at K
    refine ⟨_, rfl, b_JMath_floorMod_0 ⟨hb0, ifT c ?_⟩⟩
    refine fin rfl hr (by omega) ?_
    split at K
    · rename_i q; rw [if_pos q]; exact K
    · rename_i q; rw [if_neg q]; exact K
  · have c' := mt lc_ge.mpr c
    rw [Int64.le_iff_toInt_le, Int64.toInt_zero] at c'
    have hr := n4 (by omega)
    refine ifB (fun c2 => ?_) (fun c2 => ?_)
    · have e1 := congrArg Int64.toInt (lc_eq.mp c2)
      have e2 : (a - a / b * b).toInt = 0 := by omega
      rw [if_pos (by omega), e2] at K
      refine ⟨_, rfl, b_JMath_floorMod_0 ⟨hb0, ifF c (ifT (lc_eq.mpr (Int64.toInt_inj.mp (by rw [e2]; rfl))) ?_)⟩⟩
      refine fin e2 (by omega) (by omega) ?_
      split at K
      · rename_i q; rw [if_pos q]; exact K
      · rename_i q; rw [if_neg q]; exact K
    · have e2 : (a - a / b * b).toInt ≠ 0 := fun q => c2 (lc_eq.mpr (Int64.toInt_inj.mp (by omega)))
      rw [if_neg (by omega)] at K
      refine ⟨_, rfl, b_JMath_floorMod_0 ⟨hb0, ifF c (ifF (fun q => e2 (by rw [lc_eq.mp q]; rfl)) ?_)⟩⟩
      have hrb : bd (a - a / b * b) 819036168192 := by unfold bd at hB ⊢; omega
      have e3 := (bd_add hrb hB (by decide)).1
      refine fin (x := a - a / b * b + b) (z := (a - a / b * b).toInt + b.toInt) e3 (by omega) (by omega) ?_
      split at K
      · rename_i q; rw [if_pos q]; exact K
      · rename_i q; rw [if_neg q]; exact K
end C
/-- a time is taken by a line: what it is then, and whether something did not fit -/
def tkA (S : Nat → Int32) (r : Nat) (L : Nat → Bool) (v : Int64) : Int64 := lN (cnL L 16) * v - 256 * lX S r L
def tkB (S : Nat → Int32) (r s : Nat) (L : Nat → Bool) (v : Int64) : Int64 := lxy S r s L * tkA S r L v + 256 * lX S s L * lxx S r L
def tkV (S : Nat → Int32) (r s : Nat) (L : Nat → Bool) (v : Int64) : Int64 := nrL (tkB S r s L v) (lden S r L)
def tkO (S : Nat → Int32) (r s : Nat) (L : Nat → Bool) (v : Int64) : Bool := ((mulO (lN (cnL L 16)) v || subO (lN (cnL L 16) * v) (256 * lX S r L)) || mulO (lxy S r s L) (tkA S r L v)) || addO (lxy S r s L * tkA S r L v) (256 * lX S s L * lxx S r L)
section C
variable {d : Nat} {e : Nat × Nat} {h : zH} {Q : zQ} {v : Int64} {o : Bool} {S : Nat → Int32} {r s : Nat} {L : Nat → Bool}
theorem cX_takeBy {p : Nat} {F : Nat → Value} (hp : p ≠ 123) (ht : tmA h v o) (hF : h.2 p = zO 3 F) (hl : lnS F S r s L) (hS : StK S) (hr : r < 7) (hs : s < 7) (hL : PtL S r s L) (hn : 0 < cnL L 16) (hx : lxx S r L ≠ 0)
    (K : ∀ h', tmA h' (tkV S r s L v) (o || tkO S r s L v) → zFr (fun z => z = 123) h h' → Q none h') : zW (d + 3) m_Time_takeBy e 0 [.ref 123, .ref p, zD, zD, zD, zD] [] h Q := by
  obtain ⟨l2, l3, l4, l5, l6, l7⟩ := hl
  have hL1 : ∀ b, b < 16 → L b = true → S (16 * r + b) ≠ -4 := fun b hb h => (hL b hb h).1
  obtain ⟨T0, hT0, t0, -⟩ := id ht
  refine b_Time_takeBy_0 ⟨F, hF, _, l2, T0, hT0, _, t0, ⟨T0, hT0⟩, ?_⟩
  rw [nI_l (by have := cnL_le L 16; omega)]
  refine cX_product ht (cn16.1.mono (by decide)) (fun h1 ht1 hf1 => ?_)
  have hF1 : h1.2 p = zO 3 F := by rw [hf1 _ hp]; exact hF
  refine ⟨_, rfl, F, hF1, _, l3, ht1.imp fun _ q => q.1, cX_difference ht1 (fun h2 ht2 hf2 => ?_)⟩
  have hF2 : h2.2 p = zO 3 F := by rw [hf2 _ hp]; exact hF1
  refine ⟨_, rfl, F, hF2, _, l6, ht2.imp fun _ q => q.1, cX_product ht2 (lxy_bd hS hr hs hL) (fun h3 ht3 hf3 => ?_)⟩
  have hF3 : h3.2 p = zO 3 F := by rw [hf3 _ hp]; exact hF2
  refine ⟨_, rfl, F, hF3, _, l4, F, hF3, _, l5, ht3.imp fun _ q => q.1, cX_total ht3 (fun h4 ht4 hf4 => ?_)⟩
  have hF4 : h4.2 p = zO 3 F := by rw [hf4 _ hp]; exact hF3
  refine ⟨_, rfl, F, hF4, _, l7, cX_nearest (lden_pos hS hr hL1 hn hx) (lden_ok hS hr hL1).1 ?_⟩
  obtain ⟨T, hT, u0, u1⟩ := ht4
  refine ⟨_, rfl, T, hT, ?_⟩
  rintro h5 rfl
  refine K _ ⟨_, zP_same _ _ _, rfl, ?_⟩ ((((hf1.trans hf2).trans hf3).trans hf4).trans (zFr.put rfl))
  show T 1 = _
  rw [u1]
  unfold tkO
  simp only [Bool.or_assoc]
  rfl
/-! the Model's way -/
theorem cM_times {p : Nat} {G : Nat → Value} {a b : Int64} (hG : h.2 p = zO 10 G) (g : G 31 = .int (b01 o)) (K : Q (some (.long (a * b))) (zP h p (zO 10 (zU G 31 (.int (b01 (o || mulO a b))))))) : zW (d + 1) m_Mo_times e 0 [.ref p, .long a, zD, .long b, zD, zD, zD] [] h Q := by
  refine b_Mo_times_0 ⟨G, hG, _, g, ?_⟩
  cases o with
  | true =>
    refine ifF (by decide) ⟨by decide, G, hG, ?_⟩
    rintro h1 rfl
    exact K
  | false =>
    rw [Bool.false_or] at K
    refine ifT rfl (ifB (fun c => ⟨by decide, G, hG, ?_⟩) (fun c => ?_))
    · rintro h1 rfl
      have ha : a.toInt = 0 := by rw [lc_eq.mp c]; rfl
      rw [mulO_comm, mulO_0 ha] at K
      exact K
    · have ha0 : a ≠ 0 := fun q => c (lc_eq.mpr q)
      have ha : a.toInt ≠ 0 := fun q => ha0 (Int64.toInt_inj.mp (by rw [q]; rfl))
      rw [mulO_comm] at K
      have ec : a * b = b * a := Int64.mul_comm _ _
      refine ⟨ha0, ?_⟩
      by_cases hq : (b * a).toInt.tdiv a.toInt = 9223372036854775808
      · obtain ⟨m1, m2⟩ := mul_ex hq
        have ea : a = -1 := Int64.toInt_inj.mp (by rw [m1]; rfl)
        have eb : b = -9223372036854775808 := Int64.toInt_inj.mp (by rw [m2]; rfl)
        subst ea
        subst eb
        rw [show mulO (-9223372036854775808) (-1) = true by decide] at K
        refine ifT (by decide) (ifT (by decide) (ifT (by decide) ⟨by decide, G, hG, ?_⟩))
        rintro h1 rfl
        exact K
      · have hm := mul_div (a := b) ha hq
        rw [← ec] at hm
        refine ifB (fun c2 => ?_) (fun c2 => ⟨by decide, G, hG, ?_⟩)
        · have q := lc_eq.mp c2
          rw [hm.mp q] at K
          refine ifB (fun c3 => ifB (fun c4 => ?_) (fun c4 => ⟨by decide, G, hG, ?_⟩)) (fun c3 => ⟨by decide, G, hG, ?_⟩)
          · exfalso
            have e1 := lc_eq.mp c3
            have e2 := lc_eq.mp c4
            rw [e1, e2] at hq
            exact hq (by decide)
          · rintro h1 rfl
            exact K
          · rintro h1 rfl
            exact K
        · rintro h1 rfl
          have : mulO b a = true := by
            cases q : mulO b a with
            | true => rfl
            | false => exact absurd (lc_eq.mpr (hm.mpr q)) c2
          rw [this] at K
          exact K
theorem cM_plus {p : Nat} {G : Nat → Value} {a b : Int64} (hG : h.2 p = zO 10 G) (g : G 31 = .int (b01 o)) (K : Q (some (.long (a + b))) (zP h p (zO 10 (zU G 31 (.int (b01 (o || addO a b))))))) : zW (d + 1) m_Mo_plus e 0 [.ref p, .long a, zD, .long b, zD, zD, zD] [] h Q := by
  refine b_Mo_plus_0 ⟨G, hG, _, g, ?_⟩
  cases o with
  | true =>
    refine ifF (by decide) ⟨by decide, G, hG, ?_⟩
    rintro h1 rfl
    exact K
  | false =>
    rw [Bool.false_or] at K
    have hm := add_ov a b
    refine ifT rfl (ifB (fun c => ⟨by decide, G, hG, ?_⟩) (fun c => ⟨by decide, G, hG, ?_⟩))
    · rintro h1 rfl
      have c' := Int64.le_iff_toInt_le.mp (lc_ge.mp c)
      rw [Int64.toInt_zero] at c'
      have : addO a b = false := by
        cases q : addO a b with
        | false => rfl
        | true => have := hm.mpr q; omega
      rw [this] at K
      exact K
    · rintro h1 rfl
      have c' := mt lc_ge.mpr c
      rw [Int64.le_iff_toInt_le, Int64.toInt_zero] at c'
      rw [hm.mp (by omega)] at K
      exact K
theorem cM_nearest {a b : Int64} (hy : 0 < b.toInt) (hB : bd b 819036168192) (K : Q (some (.long (nrL a b))) h) : zW (d + 1) m_Mo_nearest e 0 [.long a, zD, .long b, zD, zD, zD, zD, zD] [] h Q := by
  obtain ⟨n1, n2, n3, n4⟩ := nr_ok (v := a) hy
  have hb0 := i64_ne0 hy
  have c2 : bd (2 : Int64) 2 := by unfold bd; decide
  have e2 : (2 : Int64).toInt = 2 := by decide
  have hrb : bd (a - a / b * b) 819036168192 := by unfold bd at hB ⊢; omega
  have e3 := (bd_add hrb hB (by decide))
  have m1 := (bd_mul c2 hrb (by decide)).1
  have m2 := (bd_mul c2 e3.2 (by decide)).1
  rw [e2] at m1 m2
  rw [e3.1] at m2
  unfold nrL at K
  refine b_Mo_nearest_0 ⟨hb0, hb0, ifB (fun c => ?_) (fun c => ?_)⟩
  · have c' := Int64.le_iff_toInt_le.mp (lc_ge.mp c)
    rw [Int64.toInt_zero] at c'
    rw [if_pos c'] at K
    refine ifB (fun c3 => ?_) (fun c3 => ?_)
    · have := Int64.lt_iff_toInt_lt.mp (lc_lt.mp c3)
      rw [if_pos (by omega)] at K
      exact K
    · have := mt lc_lt.mpr c3
      rw [Int64.lt_iff_toInt_lt] at this
      rw [if_neg (by omega)] at K
      exact K
  · have c' := mt lc_ge.mpr c
    rw [Int64.le_iff_toInt_le, Int64.toInt_zero] at c'
    rw [if_neg c'] at K
    refine ifB (fun c3 => ?_) (fun c3 => ?_)
    · have := Int64.lt_iff_toInt_lt.mp (lc_lt.mp c3)
      rw [if_pos (by omega)] at K
      exact K
    · have := mt lc_lt.mpr c3
      rw [Int64.lt_iff_toInt_lt] at this
      rw [if_neg (by omega)] at K
      exact K
end C
