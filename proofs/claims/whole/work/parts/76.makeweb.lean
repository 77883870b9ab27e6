/-! What the constructors make: the web, the class -/
section C
variable {d : Nat} {h : zH} {Q : zQ}
theorem mk_Web (hc : h.1.1 = 6) (K : ∀ h', h'.1.1 = 109 → h'.1.2 = h.1.2 + 1597 → bkA h' 15 1 2 3 (fun _ => -4) → wbA h' (fun _ => -4) 2 3 1 → zFr (fun z => 14 ≤ z ∧ z < 117) h h' → Q none h') : zW (d + 3) m_Web_init (zNew h 4 (zO 8 (zDf [2, 2, 2, 0]))).1 0 [.ref (8 + h.1.1), zD] [] (zNew h 4 (zO 8 (zDf [2, 2, 2, 0]))) Q := by
  have ha : 8 + h.1.1 = 14 := by omega
  generalize e0 : zNew h 4 (zO 8 (zDf [2, 2, 2, 0])) = h0
  obtain ⟨o0, c0, n0, f0⟩ := nwF e0.symm ha
  rw [ha]
  have w : ∀ {a : Nat} {x y : zH}, 14 ≤ a → a < 117 → zFr (fun z => z = a) x y → zFr (fun z => 14 ≤ z ∧ z < 117) x y := fun p1 p2 q => q.sub (fun z hz => by have hz : z = _ := hz; subst hz; exact ⟨p1, p2⟩)
  have loop : ∀ m j (h1 : zH) (W : Nat → Value) (f : Nat → Option Nat) (g : Nat → Int32), j + m = 49 → h1.1.1 = 11 + 2 * j → h1.1.2 = h.1.2 + 176 + 29 * j → h1.2 14 = zO 8 W → W 0 = .ref 15 → W 1 = .ref 17 → W 2 = .ref 18 → bkA h1 15 1 2 3 (fun _ => -4) → h1.2 17 = zR 3 49 f → (∀ i, i < j → f i = some (19 + 2 * i)) → h1.2 18 = zI 0 7 g →
      (∀ i, i < j → ∃ F K0, h1.2 (19 + 2 * i) = zO 3 F ∧ h1.2 (19 + 2 * i + 1) = zI 0 16 K0 ∧ F 0 = .int (nI 0) ∧ F 11 = .ref (19 + 2 * i + 1)) → zFr (fun z => 14 ≤ z ∧ z < 117) h h1 → zW (d + 3) m_Web_init h0.1 34 [.ref 14, .int (nI j)] [] h1 Q := by
    intro m
    induction m with
    | zero =>
      intro j h1 W f g hj c1 n1 o14 w0 w1 w2 b15 o17 hf o18 hl fr
      have : j = 49 := by omega
      subst this
      refine b_Web_init_34 ⟨W, o14, _, w1, 49, f, o17, ifT (show nI 49 ≤ nI 49 from Int32.le_refl _) ⟨W, o14, ?_⟩⟩
      intro h6 e6
      obtain ⟨o6, c6, n6, f6⟩ := ptF e6
      refine ⟨_, o6, _, w2, _, o6, _, rfl, cJ_fillI (n := 7) (f := g) ((f6 18 (by decide)).trans o18) (by decide) (fun g' hg => ⟨rfl, p2 (by show h6.1.1 = _; omega) (by show h6.1.2 = _; omega), ?_⟩)⟩
      have fr7 : zFr (fun z => z = 18) h6 (zP h6 18 (zI 0 7 g')) := zFr.put rfl
      have fr67 : zFr (fun z => z = 14 ∨ z = 18) h1 (zP h6 18 (zI 0 7 g')) := (f6.sub (fun z hz => Or.inl hz)).trans (fr7.sub (fun z hz => Or.inr hz))
      refine K _ (by show h6.1.1 = _; omega) (by show h6.1.2 = _; omega) (b15.fr fr67 (by decide) (by decide)) ⟨⟨⟨_, (zP_ne _ _ (by decide)).trans o6, w0, w1, w2, rfl⟩, f, (fr67 17 (by decide)).trans o17, hf⟩, fun _ => 1, ⟨g', zP_same _ _ _, fun r hr => hg r hr⟩, fun r _ => Nat.le_refl _, fun j hj => ?_⟩ ((fr.trans (w (by decide) (by decide) f6)).trans (w (by decide) (by decide) fr7))
      obtain ⟨F, K0, a1, a2, a3, a4⟩ := hl j hj
      exact ⟨F, K0, 0, (fr67 _ (by omega)).trans a1, (fr67 _ (by omega)).trans a2, a3, by decide, a4, fun q => absurd q (show ¬ 1 ≤ 0 by decide)⟩
    | succ m ih =>
      intro j h1 W f g hj c1 n1 o14 w0 w1 w2 b15 o17 hf o18 hl fr
      have ha1 : 8 + h1.1.1 = 19 + 2 * j := by omega
      refine b_Web_init_34 ⟨W, o14, _, w1, 49, f, o17, ifF (show ¬ nI 49 ≤ nI j from nI_ge (by omega) (by decide)) ⟨W, o14, _, w1, ⟨by omega, by omega⟩, ?_⟩⟩
      intro h15 e15
      obtain ⟨o15, c15, n15, f15⟩ := nwF e15 ha1
      rw [ha1]
      refine ⟨⟨by omega, by omega⟩, b_Line_init_0 ⟨⟨by decide, by decide, by omega, by rw [show (16 : Int32).toNatClampNeg = 16 from rfl]; omega⟩, ?_⟩⟩
      intro h2 e2
      have ha2 : 8 + h15.1.1 = 19 + 2 * j + 1 := by omega
      obtain ⟨o2, c2, n2, f2⟩ := nwF e2 ha2
      have n2' : h2.1.2 = h15.1.2 + 16 := n2
      rw [ha2]
      refine ⟨_, (f2 _ (by omega)).trans o15, ?_⟩
      intro h3 e3
      obtain ⟨o3, c3, n3, f3⟩ := ptF e3
      have fr3 : zFr (fun z => z = 19 + 2 * j ∨ z = 19 + 2 * j + 1) h1 h3 := ((f15.sub (fun z hz => Or.inl hz)).trans (f2.sub (fun z hz => Or.inr hz))).trans (f3.sub (fun z hz => Or.inl hz))
      refine ⟨p2 (by omega) (by omega), rfl, ⟨_, o3⟩, 49, f, (fr3 17 (by omega)).trans o17, zIn_nI (by omega) (by decide), ?_⟩
      intro h21 e21
      obtain ⟨o21, c21, n21, f21⟩ := ptF e21
      rw [nI_1]
      rw [nI_clamp (by omega)] at o21
      have fr21 : zFr (fun z => z = 17 ∨ z = 19 + 2 * j ∨ z = 19 + 2 * j + 1) h1 h21 := (fr3.sub (fun z hz => Or.inr hz)).trans (f21.sub (fun z hz => Or.inl hz))
      refine ih (j + 1) h21 W _ g (by omega) (by omega) (by omega) ((fr21 14 (by omega)).trans o14) w0 w1 w2 (b15.fr fr21 (by omega) (by omega)) o21 (fun i hi => ?_) ((fr21 18 (by omega)).trans o18) (fun i hi => ?_) (fr.trans (fr21.sub (fun z hz => by have hz : z = 17 ∨ z = 19 + 2 * j ∨ z = 19 + 2 * j + 1 := hz; show 14 ≤ z ∧ z < 117; omega)))
      · by_cases ei : i = j
        · rw [ei, zU_same]
        · rw [zU_ne _ _ ei]; exact hf i (by omega)
      · by_cases ei : i = j
        · rw [ei]
          exact ⟨_, _, (f21 _ (by omega)).trans o3, (f21 _ (by omega)).trans ((f3 _ (by omega)).trans o2), rfl, rfl⟩
        · obtain ⟨F, K0, a1, a2, a3, a4⟩ := hl i (by omega)
          exact ⟨F, K0, (fr21 _ (by omega)).trans a1, (fr21 _ (by omega)).trans a2, a3, a4⟩
  refine b_Web_init_0 ⟨⟨by omega, by omega⟩, ?_⟩
  rintro h1 rfl
  have ha1 : 8 + h0.1.1 = 15 := by omega
  refine ⟨⟨by show h0.1.1 + 1 + 1 ≤ _; omega, by show h0.1.2 + 4 + 112 ≤ _; omega⟩, mk_Book ha1 (fun h3 c3 n3 b3 f3 => ⟨rfl, ?_⟩)⟩
  rw [ha1]
  refine ⟨_, (f3 14 (by decide)).trans o0, ?_⟩
  intro h5 e5
  obtain ⟨o5, c5, n5, f5⟩ := ptF e5
  refine ⟨⟨by decide, by decide, by omega, by rw [show (49 : Int32).toNatClampNeg = 49 from rfl]; omega⟩, ?_⟩
  intro h6 e6
  have ha6 : 8 + h5.1.1 = 17 := by omega
  obtain ⟨o6, c6, n6, f6⟩ := nwF e6 ha6
  have n6' : h6.1.2 = h5.1.2 + 49 := n6
  rw [ha6]
  refine ⟨_, (f6 14 (by decide)).trans o5, ?_⟩
  intro h8 e8
  obtain ⟨o8, c8, n8, f8⟩ := ptF e8
  refine ⟨⟨by decide, by decide, by omega, by rw [show (7 : Int32).toNatClampNeg = 7 from rfl]; omega⟩, ?_⟩
  intro h9 e9
  have ha9 : 8 + h8.1.1 = 18 := by omega
  obtain ⟨o9, c9, n9, f9⟩ := nwF e9 ha9
  have n9' : h9.1.2 = h8.1.2 + 7 := n9
  rw [ha9]
  refine ⟨_, (f9 14 (by decide)).trans o8, ?_⟩
  intro h11 e11
  obtain ⟨o11, c11, n11, f11⟩ := ptF e11
  have b11 := ((((b3.fr f5 (by decide) (by decide)).fr f6 (by decide) (by decide)).fr f8 (by decide) (by decide)).fr f9 (by decide) (by decide)).fr f11 (by decide) (by decide)
  refine loop 49 0 h11 _ _ _ (by decide) (by omega) (by omega) o11 rfl rfl rfl b11 ((f11 17 (by decide)).trans ((f9 17 (by decide)).trans ((f8 17 (by decide)).trans o6))) (fun i hi => by omega) ((f11 18 (by decide)).trans o9) (fun i hi => by omega) ?_
  exact ((((((w (by decide) (by decide) f0).trans (f3.sub (fun z hz => by have hz : z = 15 ∨ z = 15 + 1 := hz; show 14 ≤ z ∧ z < 117; omega))).trans (w (by decide) (by decide) f5)).trans (w (by decide) (by decide) f6)).trans (w (by decide) (by decide) f8)).trans (w (by decide) (by decide) f9)).trans (w (by decide) (by decide) f11)
def bk0 : bkT := (1, 2, 3, fun _ => -4)
theorem mk_BL (hc : h.1 = (0, 0)) (K : ∀ h', h'.1.1 = 131 → h'.1.2 = 2560 → CA h' 1 bk0 (0, fun _ => 0) (fun _ => (false, bk0)) (fun _ => (-1, 0, fun _ => 0)) 0 0 → zFr up8 h h' → Q none h') : zW (d + 4) m_BL_init (zNew h 12 (zO 9 (zDf [2, 2, 2, 2, 2, 2, 2, 2, 2, 2, 0, 0]))).1 0 [.ref (8 + h.1.1), zD] [] (zNew h 12 (zO 9 (zDf [2, 2, 2, 2, 2, 2, 2, 2, 2, 2, 0, 0]))) Q := by
  have hc1 : h.1.1 = 0 := by rw [hc]
  have hc2 : h.1.2 = 0 := by rw [hc]
  have ha : 8 + h.1.1 = 8 := by omega
  generalize e0 : zNew h 12 (zO 9 (zDf [2, 2, 2, 2, 2, 2, 2, 2, 2, 2, 0, 0])) = h0
  obtain ⟨o0, c0, n0, f0⟩ := nwF e0.symm ha
  rw [ha]
  have w : ∀ {a : Nat} {x y : zH}, 8 ≤ a → zFr (fun z => z = a) x y → zFr up8 x y := fun p1 q => q.sub (fun z hz => by have hz : z = _ := hz; subst hz; exact p1)
  refine b_BL_init_0 ⟨⟨by omega, by omega⟩, ?_⟩
  rintro h1 rfl
  refine ⟨⟨by show h0.1.1 + 1 + 4 ≤ _; omega, by show h0.1.2 + 10 + 418 ≤ _; omega⟩, mk_Text (by omega) (fun h3 c3 n3 t3 f3 => ⟨rfl, ?_⟩)⟩
  rw [show 8 + h0.1.1 = 9 by omega]
  refine ⟨_, (f3 8 (by decide)).trans o0, ?_⟩
  intro h5 e5
  obtain ⟨o5, c5, n5, f5⟩ := ptF e5
  have t5 := t3.fr f5 (fun z a b q => by have q : z = 8 := q; omega)
  obtain ⟨⟨R5, hR5, r50, r51⟩, -⟩ := id t5
  refine ⟨_, o5, _, rfl, R5, hR5, _, r50, _, o5, ?_⟩
  intro h11 e11
  obtain ⟨o11, c11, n11, f11⟩ := ptF e11
  have t11 := t5.fr f11 (fun z a b q => by have q : z = 8 := q; omega)
  refine ⟨⟨by omega, by omega⟩, ?_⟩
  rintro h12 rfl
  refine ⟨⟨by show h11.1.1 + 1 + 102 ≤ _; omega, by show h11.1.2 + 4 + 1593 ≤ _; omega⟩, mk_Web (by omega) (fun h14 c14 n14 b14 wb14 f14 => ⟨rfl, ?_⟩)⟩
  rw [show 8 + h11.1.1 = 14 by omega]
  refine ⟨_, (f14 8 (by decide)).trans o11, ?_⟩
  intro h16 e16
  obtain ⟨o16, c16, n16, f16⟩ := ptF e16
  have t16 := (t11.fr f14 (fun z a b q => by have q : 14 ≤ z ∧ z < 117 := q; omega)).fr f16 (fun z a b q => by have q : z = 8 := q; omega)
  have b16 := b14.fr f16 (by decide) (by decide)
  have wb16 := wb14.fr f16 (fun z hz q => by have hz : z = 8 := hz; omega)
  obtain ⟨⟨⟨W16, hW16, w16, -⟩, -⟩, -⟩ := id wb16
  refine b_BL_init_37 ⟨_, o16, _, rfl, W16, hW16, _, w16, _, o16, ?_⟩
  intro h17 e17
  obtain ⟨o17, c17, n17, f17⟩ := ptF e17
  refine ⟨⟨by omega, by omega⟩, ?_⟩
  rintro h18 rfl
  refine ⟨⟨by show h17.1.1 + 1 + 2 ≤ _; omega, by show h17.1.2 + 4 + 56 ≤ _; omega⟩, mk_Chains (by omega) (fun h19 c19 n19 ch19 f19 => ⟨rfl, ?_⟩)⟩
  rw [show 8 + h17.1.1 = 117 by omega]
  refine ⟨_, (f19 8 (by decide)).trans o17, ?_⟩
  intro h20 e20
  obtain ⟨o20, c20, n20, f20⟩ := ptF e20
  refine ⟨⟨by omega, by omega⟩, ?_⟩
  rintro h21 rfl
  refine ⟨⟨by show h20.1.1 + 1 + 2 ≤ _; omega, by show h20.1.2 + 3 + 14 ≤ _; omega⟩, mk_Drawer (by omega) (fun h22 c22 n22 dr22 f22 => ⟨rfl, ?_⟩)⟩
  rw [show 8 + h20.1.1 = 120 by omega]
  refine ⟨_, (f22 8 (by decide)).trans o20, ?_⟩
  intro h23 e23
  obtain ⟨o23, c23, n23, f23⟩ := ptF e23
  refine ⟨⟨by omega, by omega⟩, ?_⟩
  intro h24 e24
  obtain ⟨o24, c24, n24, f24⟩ := nwF e24 (show 8 + h23.1.1 = 123 by omega)
  rw [show 8 + h23.1.1 = 123 by omega]
  refine b_Time_init_0 ⟨rfl, _, (f24 8 (by decide)).trans o23, ?_⟩
  intro h25 e25
  obtain ⟨o25, c25, n25, f25⟩ := ptF e25
  refine ⟨⟨by decide, by decide, by omega, by rw [show (2 : Int32).toNatClampNeg = 2 from rfl]; omega⟩, ?_⟩
  intro h26 e26
  obtain ⟨o26, c26, n26, f26⟩ := nwF e26 (show 8 + h25.1.1 = 124 by omega)
  have n26' : h26.1.2 = h25.1.2 + 2 := n26
  rw [show 8 + h25.1.1 = 124 by omega]
  refine ⟨_, (f26 8 (by decide)).trans o25, ?_⟩
  intro h27 e27
  obtain ⟨o27, c27, n27, f27⟩ := ptF e27
  refine ⟨⟨by decide, by decide, by omega, by rw [show (2 : Int32).toNatClampNeg = 2 from rfl]; omega⟩, ?_⟩
  intro h28 e28
  obtain ⟨o28, c28, n28, f28⟩ := nwF e28 (show 8 + h27.1.1 = 125 by omega)
  have n28' : h28.1.2 = h27.1.2 + 2 := n28
  rw [show 8 + h27.1.1 = 125 by omega]
  refine ⟨_, (f28 8 (by decide)).trans o27, ?_⟩
  intro h29 e29
  obtain ⟨o29, c29, n29, f29⟩ := ptF e29
  refine ⟨⟨by decide, by decide, by omega, by rw [show (4 : Int32).toNatClampNeg = 4 from rfl]; omega⟩, ?_⟩
  intro h30 e30
  obtain ⟨o30, c30, n30, f30⟩ := nwF e30 (show 8 + h29.1.1 = 126 by omega)
  have n30' : h30.1.2 = h29.1.2 + 4 := n30
  rw [show 8 + h29.1.1 = 126 by omega]
  refine ⟨_, (f30 8 (by decide)).trans o29, ?_⟩
  intro h31 e31
  obtain ⟨o31, c31, n31, f31⟩ := ptF e31
  -- two images
  have g16 : zFr up8 h h16 := ((((((w (by decide) f0).trans (f3.sub (fun z hz => by have hz : 9 ≤ z ∧ z < 14 := hz; show 8 ≤ z; omega))).trans (w (by decide) f5)).trans (w (by decide) f11)).trans (f14.sub (fun z hz => by have hz : 14 ≤ z ∧ z < 117 := hz; show 8 ≤ z; omega))).trans (w (by decide) f16))
  have g1631 : zFr (fun z => z = 8 ∨ (117 ≤ z ∧ z < 127)) h16 h31 := by
    have v : ∀ {a : Nat} {x y : zH}, (a = 8 ∨ (117 ≤ a ∧ a < 127)) → zFr (fun z => z = a) x y → zFr (fun z => z = 8 ∨ (117 ≤ z ∧ z < 127)) x y := fun p1 q => q.sub (fun z hz => by have hz : z = _ := hz; subst hz; exact p1)
    exact (((((((((((((v (by decide) f17).trans (f19.sub (fun z hz => by have hz : 117 ≤ z ∧ z < 120 := hz; show z = 8 ∨ (117 ≤ z ∧ z < 127); omega))).trans (v (by decide) f20)).trans (f22.sub (fun z hz => by have hz : 120 ≤ z ∧ z < 123 := hz; show z = 8 ∨ (117 ≤ z ∧ z < 127); omega))).trans (v (by decide) f23)).trans (v (by decide) f24)).trans (v (by decide) f25)).trans (v (by decide) f26)).trans (v (by decide) f27)).trans (v (by decide) f28)).trans (v (by decide) f29)).trans (v (by decide) f30)).trans (v (by decide) f31))
  have k124 : h31.2 124 = zR 0 2 (fun _ => none) := (f31 124 (by decide)).trans ((f30 124 (by decide)).trans ((f29 124 (by decide)).trans ((f28 124 (by decide)).trans ((f27 124 (by decide)).trans o26))))
  have k125 : h31.2 125 = zI 1 2 (fun _ => 0) := (f31 125 (by decide)).trans ((f30 125 (by decide)).trans ((f29 125 (by decide)).trans o28))
  have k126 : h31.2 126 = zR 4 4 (fun _ => none) := (f31 126 (by decide)).trans o30
  have xW31 : xW h31 1 bk0 := by
    refine ⟨b16.fr g1631 (by decide) (by decide), ⟨1, Nat.le_refl _, wb16.fr g1631 (fun z hz q => by have hz : z = 8 ∨ (117 ≤ z ∧ z < 127) := hz; omega)⟩, ?_⟩
    have ch20 := ch19.fr f20 (fun z hz q => by have hz : z = 8 := hz; omega)
    have ch22 := ch20.fr f22 (fun z hz q => by have hz : 120 ≤ z ∧ z < 123 := hz; omega)
    exact ((((((((ch22.fr f23 (fun z hz q => by have hz : z = 8 := hz; omega)).fr f24 (fun z hz q => by have hz : z = 123 := hz; omega)).fr f25 (fun z hz q => by have hz : z = 8 := hz; omega)).fr f26 (fun z hz q => by have hz : z = 124 := hz; omega)).fr f27 (fun z hz q => by have hz : z = 8 := hz; omega)).fr f28 (fun z hz q => by have hz : z = 125 := hz; omega)).fr f29 (fun z hz q => by have hz : z = 8 := hz; omega)).fr f30 (fun z hz q => by have hz : z = 126 := hz; omega)).fr f31 (fun z hz q => by have hz : z = 8 := hz; omega)
  have dr31 : drA h31 0 0 0 := ((((((((dr22.fr f23 (by decide) (by decide) (by decide)).fr f24 (by decide) (by decide) (by decide)).fr f25 (by decide) (by decide) (by decide)).fr f26 (by decide) (by decide) (by decide)).fr f27 (by decide) (by decide) (by decide)).fr f28 (by decide) (by decide) (by decide)).fr f29 (by decide) (by decide) (by decide)).fr f30 (by decide) (by decide) (by decide)).fr f31 (by decide) (by decide) (by decide)
  have tm31 : ∃ F, h31.2 123 = zO 7 F := ⟨_, (f31 123 (by decide)).trans ((f30 123 (by decide)).trans ((f29 123 (by decide)).trans ((f28 123 (by decide)).trans ((f27 123 (by decide)).trans ((f26 123 (by decide)).trans ((f25 123 (by decide)).trans o24))))))⟩
  have t31 := t16.fr g1631 (fun z a b q => by have q : z = 8 ∨ (117 ≤ z ∧ z < 127) := q; omega)
  have g31 : zFr up8 h h31 := g16.trans (g1631.sub (fun z hz => by have hz : z = 8 ∨ (117 ≤ z ∧ z < 127) := hz; show 8 ≤ z; omega))
  have d31 : h31.1.1 = 119 := by omega
  have m31 : h31.1.2 = 2124 := by omega
  have x31 : x8 h31 0 0 := ⟨_, o31, ⟨rfl, rfl, rfl, rfl, rfl, rfl, rfl, rfl, rfl, rfl⟩, rfl, rfl⟩
  obtain ⟨F31, hF31, bR31, q10, q11⟩ := id x31
  have c0' : h0.1.1 = 1 := by omega
  have n0' : h0.1.2 = 12 := by omega
  clear o31 o29 o27 o25 o23 o20 o17 o16 o11 o5 o0
  have sheets : ∀ m j (h1 : zH) (g : Nat → Option Nat), j + m = 4 → h1.1.1 = 123 + 2 * j → h1.1.2 = 2356 + 51 * j → h1.2 126 = zR 4 4 g → (∀ i, i < j → g i = some (131 + 2 * i)) → (∀ i, i < j → shA h1 (131 + 2 * i) (-1) 0 (fun _ => 0)) → x8 h1 0 0 → xT h1 (0, fun _ => 0) → xW h1 1 bk0 → xD h1 → xI h1 (fun _ => (false, bk0)) → zFr up8 h h1 → zW (d + 4) m_BL_init h0.1 132 [.ref 8, .int (nI j)] [] h1 Q := by
    intro m
    induction m with
    | zero =>
      intro j h1 g hj c1 n1 o126 hg hsh y8 yT yW yD yI fr
      have : j = 4 := by omega
      subst this
      exact b_BL_init_132 (ifT (show nI 4 ≤ nI 4 from Int32.le_refl _) ⟨p2 (by omega) (by omega), K h1 (by omega) (by omega) ⟨y8, yT, yW, yD, yI, ⟨g, o126, hg⟩, fun j hj => hsh j hj⟩ fr⟩)
    | succ m ih =>
      intro j h1 g hj c1 n1 o126 hg hsh y8 yT yW yD yI fr
      obtain ⟨F1, hF1, bR1, -⟩ := id y8
      have ha1 : 8 + h1.1.1 = 131 + 2 * j := by omega
      refine b_BL_init_132 (ifF (show ¬ nI 4 ≤ nI j from nI_ge (by omega) (by decide)) ⟨F1, hF1, _, bR1.2.2.2.2.2.2.2.2.2, ⟨by omega, by omega⟩, ?_⟩)
      rintro h2 rfl
      refine ⟨⟨by show h1.1.1 + 1 + 1 ≤ _; omega, by show h1.1.2 + 3 + 48 ≤ _; omega⟩, mk_Sheet ha1 (fun h3 c3 n3 s3 f3 => ⟨rfl, ?_⟩)⟩
      rw [ha1]
      refine ⟨s3.1.imp fun _ w => w.1, 4, g, (f3 126 (by omega)).trans o126, zIn_nI (by omega) (by decide), ?_⟩
      intro h9 e9
      obtain ⟨o9, c9, n9, f9⟩ := ptF e9
      rw [nI_clamp (by omega)] at o9
      rw [nI_1]
      have f39 : zFr (fun z => z = 126 ∨ z = 131 + 2 * j ∨ z = 131 + 2 * j + 1) h1 h9 := (f3.sub (fun z hz => Or.inr hz)).trans (f9.sub (fun z hz => Or.inl hz))
      refine ih (j + 1) h9 _ (by omega) (by omega) (by omega) o9 (fun i hi => ?_) (fun i hi => ?_) (y8.fr f39 (by omega)) (yT.fr f39 (fun z a b q => by have q : z = 126 ∨ z = 131 + 2 * j ∨ z = 131 + 2 * j + 1 := q; omega)) (yW.fr f39 (fun z a b q => by have q : z = 126 ∨ z = 131 + 2 * j ∨ z = 131 + 2 * j + 1 := q; omega)) (yD.fr f39 (fun z a b q => by have q : z = 126 ∨ z = 131 + 2 * j ∨ z = 131 + 2 * j + 1 := q; omega)) (yI.fr f39 (fun z a b a' q => by have q : z = 126 ∨ z = 131 + 2 * j ∨ z = 131 + 2 * j + 1 := q; omega)) (fr.trans (f39.sub (fun z hz => by have hz : z = 126 ∨ z = 131 + 2 * j ∨ z = 131 + 2 * j + 1 := hz; show 8 ≤ z; omega)))
      · by_cases ei : i = j
        · rw [ei, zU_same]
        · rw [zU_ne _ _ ei]; exact hg i (by omega)
      · by_cases ei : i = j
        · rw [ei]; exact s3.fr f9 (by omega) (by omega)
        · exact (hsh i (by omega)).fr f39 (by omega) (by omega)
  have images : ∀ m j (h1 : zH) (g : Nat → Option Nat), j + m = 2 → h1.1.1 = 119 + 2 * j → h1.1.2 = 2124 + 116 * j → h1.2 124 = zR 0 2 g → (∀ i, i < j → g i = some (127 + 2 * i)) → (∀ i, i < j → bkA h1 (127 + 2 * i) 1 2 3 (fun _ => -4)) → zFr (fun z => z = 124 ∨ (127 ≤ z ∧ z < 131)) h31 h1 → zW (d + 4) m_BL_init h0.1 106 [.ref 8, .int (nI j)] [] h1 Q := by
    intro m
    induction m with
    | zero =>
      intro j h1 g hj c1 n1 o124 hg hbk fr
      have : j = 2 := by omega
      subst this
      have nf : ∀ z, (z = 124 ∨ (127 ≤ z ∧ z < 131)) → ¬ (z < 124 ∨ z = 125 ∨ z = 126 ∨ 131 ≤ z) := fun z hz => by omega
      refine b_BL_init_106 (ifT (show nI 2 ≤ nI 2 from Int32.le_refl _) (sheets 4 0 h1 (fun _ => none) (by decide) (by omega) (by omega) ((fr 126 (by decide)).trans k126) (fun i hi => by omega) (fun i hi => by omega) (x31.fr fr (by decide)) (t31.fr fr (fun z a b q => by have := nf z q; omega)) (xW31.fr fr (fun z a b q => by have := nf z q; omega)) (xD.fr ⟨⟨0, 0, dr31⟩, tm31⟩ fr (fun z a b q => by have := nf z q; omega)) ⟨⟨g, o124, hg⟩, ⟨_, (fr 125 (by decide)).trans k125, fun j _ => rfl⟩, fun j hj => ⟨⟨_, _, _, _, hbk j hj⟩, fun q => by cases q⟩⟩ (g31.trans (fr.sub (fun z hz => by have hz : z = 124 ∨ (127 ≤ z ∧ z < 131) := hz; show 8 ≤ z; omega)))))
    | succ m ih =>
      intro j h1 g hj c1 n1 o124 hg hbk fr
      have hF1 : h1.2 8 = zO 9 F31 := (fr 8 (by decide)).trans hF31
      have ha1 : 8 + h1.1.1 = 127 + 2 * j := by omega
      refine b_BL_init_106 (ifF (show ¬ nI 2 ≤ nI j from nI_ge (by omega) (by decide)) ⟨F31, hF1, _, bR31.2.2.2.2.2.2.2.1, ⟨by omega, by omega⟩, ?_⟩)
      rintro h2 rfl
      refine ⟨⟨by show h1.1.1 + 1 + 1 ≤ _; omega, by show h1.1.2 + 4 + 112 ≤ _; omega⟩, mk_Book ha1 (fun h3 c3 n3 b3 f3 => ⟨rfl, ?_⟩)⟩
      rw [ha1]
      refine ⟨b3.1.imp fun _ w => w.1, 2, g, (f3 124 (by omega)).trans o124, zIn_nI (by omega) (by decide), ?_⟩
      intro h9 e9
      obtain ⟨o9, c9, n9, f9⟩ := ptF e9
      rw [nI_clamp (by omega)] at o9
      rw [nI_1]
      have f39 : zFr (fun z => z = 124 ∨ z = 127 + 2 * j ∨ z = 127 + 2 * j + 1) h1 h9 := (f3.sub (fun z hz => Or.inr hz)).trans (f9.sub (fun z hz => Or.inl hz))
      refine ih (j + 1) h9 _ (by omega) (by omega) (by omega) o9 (fun i hi => ?_) (fun i hi => ?_) (fr.trans (f39.sub (fun z hz => by have hz : z = 124 ∨ z = 127 + 2 * j ∨ z = 127 + 2 * j + 1 := hz; show z = 124 ∨ (127 ≤ z ∧ z < 131); omega)))
      · by_cases ei : i = j
        · rw [ei, zU_same]
        · rw [zU_ne _ _ ei]; exact hg i (by omega)
      · by_cases ei : i = j
        · rw [ei]; exact b3.fr f9 (by omega) (by omega)
        · exact (hbk i (by omega)).fr f39 (by omega) (by omega)
  exact images 2 0 h31 _ (by decide) (by omega) (by omega) k124 (fun i hi => by omega) (fun i hi => by omega) zFr.rf
end C
