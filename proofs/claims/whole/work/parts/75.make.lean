/-! What the constructors make: the parts of the class -/
theorem nwF {h h' : zH} {n a : Nat} {c : zCell} (e : h' = zNew h n c) (ha : 8 + h.1.1 = a) : h'.2 a = c ∧ h'.1.1 = h.1.1 + 1 ∧ h'.1.2 = h.1.2 + n ∧ zFr (fun z => z = a) h h' := by
  subst e
  subst ha
  refine ⟨?_, rfl, rfl, fun z hz => ?_⟩
  · show zU h.2 (8 + h.1.1) c (8 + h.1.1) = c
    exact zU_same _ _ _
  · show zU h.2 (8 + h.1.1) c z = h.2 z
    exact zU_ne _ _ hz
theorem ptF {h h' : zH} {a : Nat} {c : zCell} (e : h' = zP h a c) : h'.2 a = c ∧ h'.1.1 = h.1.1 ∧ h'.1.2 = h.1.2 ∧ zFr (fun z => z = a) h h' := by
  subst e
  exact ⟨zP_same _ _ _, rfl, rfl, zFr.put rfl⟩
theorem p2 {x : Nat × Nat} {a b : Nat} (h1 : x.1 = a) (h2 : x.2 = b) : x = (a, b) := Prod.ext h1 h2
section C
variable {d : Nat} {h : zH} {Q : zQ}
theorem mk_Book {a : Nat} (ha : 8 + h.1.1 = a) (K : ∀ h', h'.1.1 = h.1.1 + 2 → h'.1.2 = h.1.2 + 116 → bkA h' a 1 2 3 (fun _ => -4) → zFr (fun z => z = a ∨ z = a + 1) h h' → Q none h') : zW (d + 2) m_Book_init (zNew h 4 (zO 0 (zDf [0, 0, 0, 2]))).1 0 [.ref (8 + h.1.1)] [] (zNew h 4 (zO 0 (zDf [0, 0, 0, 2]))) Q := by
  generalize e0 : zNew h 4 (zO 0 (zDf [0, 0, 0, 2])) = h0
  obtain ⟨o0, c0, n0, f0⟩ := nwF e0.symm ha
  rw [ha]
  refine b_Book_init_0 ⟨_, o0, ?_⟩
  intro h2 e2
  obtain ⟨o2, c2, n2, f2⟩ := ptF e2
  refine ⟨_, o2, ?_⟩
  intro h4 e4
  obtain ⟨o4, c4, n4, f4⟩ := ptF e4
  refine ⟨_, o4, ?_⟩
  intro h6 e6
  obtain ⟨o6, c6, n6, f6⟩ := ptF e6
  refine ⟨⟨by decide, by decide, by omega, by rw [show (112 : Int32).toNatClampNeg = 112 from rfl]; omega⟩, ?_⟩
  intro h7 e7
  have ha7 : 8 + h6.1.1 = a + 1 := by omega
  obtain ⟨o7, c7, n7, f7⟩ := nwF e7 ha7
  rw [ha7]
  have n7' : h7.1.2 = h6.1.2 + 112 := n7
  refine ⟨_, (f7 a (by omega)).trans o6, ?_⟩
  intro h9 e9
  obtain ⟨o9, c9, n9, f9⟩ := ptF e9
  refine ⟨_, o9, _, rfl, cJ_fillI (n := 112) (f := fun _ => 0) ((f9 (a + 1) (by omega)).trans o7) (by decide) (fun f' hf => ⟨rfl, p2 (by show h9.1.1 = _; omega) (by show h9.1.2 = _; omega), K _ (by show h9.1.1 = _; omega) (by show h9.1.2 = _; omega) ⟨⟨_, (zP_ne _ _ (by omega)).trans o9, rfl, rfl, rfl, rfl⟩, f', zP_same _ _ _, hf⟩ ?_⟩)⟩
  have w : ∀ {x y : zH}, zFr (fun z => z = a) x y → zFr (fun z => z = a ∨ z = a + 1) x y := fun q => q.sub (fun z hz => Or.inl hz)
  exact ((((((w f0).trans (w f2)).trans (w f4)).trans (w f6)).trans (f7.sub (fun z hz => Or.inr hz))).trans (w f9)).trans (zFr.put (Or.inr rfl))
theorem mk_Sheet {a : Nat} (ha : 8 + h.1.1 = a) (K : ∀ h', h'.1.1 = h.1.1 + 2 → h'.1.2 = h.1.2 + 51 → shA h' a (-1) 0 (fun _ => 0) → zFr (fun z => z = a ∨ z = a + 1) h h' → Q none h') : zW (d + 1) m_Sheet_init (zNew h 3 (zO 4 (zDf [0, 0, 2]))).1 0 [.ref (8 + h.1.1)] [] (zNew h 3 (zO 4 (zDf [0, 0, 2]))) Q := by
  generalize e0 : zNew h 3 (zO 4 (zDf [0, 0, 2])) = h0
  obtain ⟨o0, c0, n0, f0⟩ := nwF e0.symm ha
  rw [ha]
  refine b_Sheet_init_0 ⟨_, o0, ?_⟩
  intro h2 e2
  obtain ⟨o2, c2, n2, f2⟩ := ptF e2
  refine ⟨⟨by decide, by decide, by omega, by rw [show (48 : Int32).toNatClampNeg = 48 from rfl]; omega⟩, ?_⟩
  intro h3 e3
  have ha3 : 8 + h2.1.1 = a + 1 := by omega
  obtain ⟨o3, c3, n3, f3⟩ := nwF e3 ha3
  have n3' : h3.1.2 = h2.1.2 + 48 := n3
  rw [ha3]
  refine ⟨_, (f3 a (by omega)).trans o2, ?_⟩
  intro h5 e5
  obtain ⟨o5, c5, n5, f5⟩ := ptF e5
  have w : ∀ {x y : zH}, zFr (fun z => z = a) x y → zFr (fun z => z = a ∨ z = a + 1) x y := fun q => q.sub (fun z hz => Or.inl hz)
  exact ⟨p2 (by omega) (by omega), K h5 (by omega) (by omega) ⟨⟨_, o5, rfl, rfl, rfl⟩, _, (f5 (a + 1) (by omega)).trans o3, fun _ _ => rfl⟩ ((((w f0).trans (w f2)).trans (f3.sub (fun z hz => Or.inr hz))).trans (w f5))⟩
theorem mk_Text (hc : h.1.1 = 1) (K : ∀ h', h'.1.1 = 6 → h'.1.2 = h.1.2 + 428 → xT h' (0, fun _ => 0) → zFr (fun z => 9 ≤ z ∧ z < 14) h h' → Q none h') : zW (d + 3) m_Text_init (zNew h 10 (zO 6 (zDf [2, 2, 0, 0, 0, 0, 0, 0, 0, 0]))).1 0 [.ref (8 + h.1.1)] [] (zNew h 10 (zO 6 (zDf [2, 2, 0, 0, 0, 0, 0, 0, 0, 0]))) Q := by
  have ha : 8 + h.1.1 = 9 := by omega
  generalize e0 : zNew h 10 (zO 6 (zDf [2, 2, 0, 0, 0, 0, 0, 0, 0, 0])) = h0
  obtain ⟨o0, c0, n0, f0⟩ := nwF e0.symm ha
  rw [ha]
  refine b_Text_init_0 ⟨⟨by omega, by omega⟩, ?_⟩
  intro h1 e1
  have ha1 : 8 + h0.1.1 = 10 := by omega
  obtain ⟨o1, c1, n1, f1⟩ := nwF e1 ha1
  rw [ha1]
  refine ⟨⟨by omega, by omega⟩, b_Tape_init_0 ⟨⟨by decide, by decide, by omega, by rw [show (300 : Int32).toNatClampNeg = 300 from rfl]; omega⟩, ?_⟩⟩
  intro h2 e2
  have ha2 : 8 + h1.1.1 = 11 := by omega
  obtain ⟨o2, c2, n2, f2⟩ := nwF e2 ha2
  have n2' : h2.1.2 = h1.1.2 + 300 := n2
  rw [ha2]
  refine ⟨_, (f2 10 (by decide)).trans o1, ?_⟩
  intro h3 e3
  obtain ⟨o3, c3, n3, f3⟩ := ptF e3
  refine ⟨p2 (by omega) (by omega), rfl, ?_⟩
  have o39 : h3.2 9 = _ := (f3 9 (by decide)).trans ((f2 9 (by decide)).trans ((f1 9 (by decide)).trans o0))
  refine ⟨_, o39, ?_⟩
  intro h5 e5
  obtain ⟨o5, c5, n5, f5⟩ := ptF e5
  refine ⟨⟨by omega, by omega⟩, ?_⟩
  rintro h6 rfl
  have ha6 : 8 + h5.1.1 = 12 := by omega
  refine ⟨⟨by show h5.1.1 + 1 + 1 ≤ _; omega, by show h5.1.2 + 4 + 112 ≤ _; omega⟩, mk_Book ha6 (fun h8 c8 n8 b8 f8 => ⟨rfl, ?_⟩)⟩
  rw [ha6]
  refine ⟨_, (f8 9 (by decide)).trans o5, ?_⟩
  intro h10 e10
  obtain ⟨o10, c10, n10, f10⟩ := ptF e10
  refine ⟨p2 (by omega) (by omega), K h10 (by omega) (by omega) ⟨⟨_, o10, rfl, rfl⟩, ⟨_, _, _, _, b8.fr f10 (by decide) (by decide)⟩, ⟨_, (f10 10 (by decide)).trans ((f8 10 (by decide)).trans ((f5 10 (by decide)).trans o3)), rfl, rfl⟩, _, (f10 11 (by decide)).trans ((f8 11 (by decide)).trans ((f5 11 (by decide)).trans ((f3 11 (by decide)).trans o2))), fun _ _ => rfl⟩ ?_⟩
  have w : ∀ {a : Nat} {x y : zH}, 9 ≤ a → a < 14 → zFr (fun z => z = a) x y → zFr (fun z => 9 ≤ z ∧ z < 14) x y := fun p1 p2 q => q.sub (fun z hz => by have hz : z = _ := hz; subst hz; exact ⟨p1, p2⟩)
  exact (((((((w (by decide) (by decide) f0).trans (w (by decide) (by decide) f1)).trans (w (by decide) (by decide) f2)).trans (w (by decide) (by decide) f3)).trans (w (by decide) (by decide) f5)).trans (f8.sub (fun z hz => by have hz : z = 12 ∨ z = 12 + 1 := hz; show 9 ≤ z ∧ z < 14; omega)))).trans (w (by decide) (by decide) f10)
theorem mk_Chains (hc : h.1.1 = 109) (K : ∀ h', h'.1.1 = 112 → h'.1.2 = h.1.2 + 60 → chO h' → zFr (fun z => 117 ≤ z ∧ z < 120) h h' → Q none h') : zW (d + 1) m_Chains_init (zNew h 4 (zO 1 (zDf [0, 0, 2, 2]))).1 0 [.ref (8 + h.1.1)] [] (zNew h 4 (zO 1 (zDf [0, 0, 2, 2]))) Q := by
  have ha : 8 + h.1.1 = 117 := by omega
  generalize e0 : zNew h 4 (zO 1 (zDf [0, 0, 2, 2])) = h0
  obtain ⟨o0, c0, n0, f0⟩ := nwF e0.symm ha
  rw [ha]
  refine b_Chains_init_0 ⟨⟨by decide, by decide, by omega, by rw [show (49 : Int32).toNatClampNeg = 49 from rfl]; omega⟩, ?_⟩
  intro h1 e1
  have ha1 : 8 + h0.1.1 = 118 := by omega
  obtain ⟨o1, c1, n1, f1⟩ := nwF e1 ha1
  have n1' : h1.1.2 = h0.1.2 + 49 := n1
  rw [ha1]
  refine ⟨_, (f1 117 (by decide)).trans o0, ?_⟩
  intro h3 e3
  obtain ⟨o3, c3, n3, f3⟩ := ptF e3
  refine ⟨⟨by decide, by decide, by omega, by rw [show (7 : Int32).toNatClampNeg = 7 from rfl]; omega⟩, ?_⟩
  intro h4 e4
  have ha4 : 8 + h3.1.1 = 119 := by omega
  obtain ⟨o4, c4, n4, f4⟩ := nwF e4 ha4
  have n4' : h4.1.2 = h3.1.2 + 7 := n4
  rw [ha4]
  refine ⟨_, (f4 117 (by decide)).trans o3, ?_⟩
  intro h6 e6
  obtain ⟨o6, c6, n6, f6⟩ := ptF e6
  have w : ∀ {a : Nat} {x y : zH}, 117 ≤ a → a < 120 → zFr (fun z => z = a) x y → zFr (fun z => 117 ≤ z ∧ z < 120) x y := fun p1 p2 q => q.sub (fun z hz => by have hz : z = _ := hz; subst hz; exact ⟨p1, p2⟩)
  exact ⟨p2 (by omega) (by omega), K h6 (by omega) (by omega) ⟨⟨_, o6, rfl, rfl⟩, ⟨_, (f6 118 (by decide)).trans ((f4 118 (by decide)).trans ((f3 118 (by decide)).trans o1))⟩, _, (f6 119 (by decide)).trans o4⟩ (((((w (by decide) (by decide) f0).trans (w (by decide) (by decide) f1)).trans (w (by decide) (by decide) f3)).trans (w (by decide) (by decide) f4)).trans (w (by decide) (by decide) f6))⟩
theorem mk_Drawer (hc : h.1.1 = 112) (K : ∀ h', h'.1.1 = 115 → h'.1.2 = h.1.2 + 17 → drA h' 0 0 0 → zFr (fun z => 120 ≤ z ∧ z < 123) h h' → Q none h') : zW (d + 1) m_Drawer_init (zNew h 3 (zO 2 (zDf [2, 2, 0]))).1 0 [.ref (8 + h.1.1)] [] (zNew h 3 (zO 2 (zDf [2, 2, 0]))) Q := by
  have ha : 8 + h.1.1 = 120 := by omega
  generalize e0 : zNew h 3 (zO 2 (zDf [2, 2, 0])) = h0
  obtain ⟨o0, c0, n0, f0⟩ := nwF e0.symm ha
  rw [ha]
  refine b_Drawer_init_0 ⟨⟨by decide, by decide, by omega, by rw [show (7 : Int32).toNatClampNeg = 7 from rfl]; omega⟩, ?_⟩
  intro h1 e1
  have ha1 : 8 + h0.1.1 = 121 := by omega
  obtain ⟨o1, c1, n1, f1⟩ := nwF e1 ha1
  have n1' : h1.1.2 = h0.1.2 + 7 := n1
  rw [ha1]
  refine ⟨_, (f1 120 (by decide)).trans o0, ?_⟩
  intro h3 e3
  obtain ⟨o3, c3, n3, f3⟩ := ptF e3
  refine ⟨⟨by decide, by decide, by omega, by rw [show (7 : Int32).toNatClampNeg = 7 from rfl]; omega⟩, ?_⟩
  intro h4 e4
  have ha4 : 8 + h3.1.1 = 122 := by omega
  obtain ⟨o4, c4, n4, f4⟩ := nwF e4 ha4
  have n4' : h4.1.2 = h3.1.2 + 7 := n4
  rw [ha4]
  refine ⟨_, (f4 120 (by decide)).trans o3, ?_⟩
  intro h6 e6
  obtain ⟨o6, c6, n6, f6⟩ := ptF e6
  have w : ∀ {a : Nat} {x y : zH}, 120 ≤ a → a < 123 → zFr (fun z => z = a) x y → zFr (fun z => 120 ≤ z ∧ z < 123) x y := fun p1 p2 q => q.sub (fun z hz => by have hz : z = _ := hz; subst hz; exact ⟨p1, p2⟩)
  exact ⟨p2 (by omega) (by omega), K h6 (by omega) (by omega) ⟨⟨_, o6, rfl, rfl, rfl⟩, ⟨_, (f6 121 (by decide)).trans ((f4 121 (by decide)).trans ((f3 121 (by decide)).trans o1)), fun r hr => by omega⟩, _, (f6 122 (by decide)).trans o4, fun r hr => by omega⟩ (((((w (by decide) (by decide) f0).trans (w (by decide) (by decide) f1)).trans (w (by decide) (by decide) f3)).trans (w (by decide) (by decide) f4)).trans (w (by decide) (by decide) f6))⟩
end C
