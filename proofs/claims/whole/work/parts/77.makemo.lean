/-! What the constructors make: the Model; both -/
section C
variable {d : Nat} {h : zH} {Q : zQ}
theorem mk_Mo (hc : h.1.1 = 131) (K : ∀ h', MA h' bk0 (0, fun _ => 0) (fun _ => (false, bk0)) (fun _ => (-1, 0, fun _ => 0)) 0 0 → zFr (fun z => 139 ≤ z) h h' → Q none h') : zW (d + 2) m_Mo_init (zNew h 39 (zO 10 (zDf [2, 2, 2, 2, 2, 0, 0, 0, 0, 0, 0, 0, 0, 0, 0, 1, 1, 1, 1, 1, 0, 1, 2, 2, 0, 2, 2, 2, 2, 0, 0, 0, 1, 0, 2, 2, 2, 2, 2]))).1 0 [.ref (8 + h.1.1), zD] [] (zNew h 39 (zO 10 (zDf [2, 2, 2, 2, 2, 0, 0, 0, 0, 0, 0, 0, 0, 0, 0, 1, 1, 1, 1, 1, 0, 1, 2, 2, 0, 2, 2, 2, 2, 0, 0, 0, 1, 0, 2, 2, 2, 2, 2]))) Q := by
  have ha : 8 + h.1.1 = 139 := by omega
  generalize e0 : zNew h 39 (zO 10 (zDf [2, 2, 2, 2, 2, 0, 0, 0, 0, 0, 0, 0, 0, 0, 0, 1, 1, 1, 1, 1, 0, 1, 2, 2, 0, 2, 2, 2, 2, 0, 0, 0, 1, 0, 2, 2, 2, 2, 2])) = h0
  obtain ⟨o0, c0, n0, f0⟩ := nwF e0.symm ha
  rw [ha]
  have w : ∀ {a : Nat} {x y : zH}, 139 ≤ a → zFr (fun z => z = a) x y → zFr (fun z => 139 ≤ z) x y := fun p1 q => q.sub (fun z hz => by have hz : z = _ := hz; subst hz; exact p1)
  have fr0 := w (by decide) f0
  refine b_Mo_init_0 ⟨⟨by decide, by decide, by omega, by rw [show (115 : Int32).toNatClampNeg = 115 from rfl]; omega⟩, ?_⟩
  intro x0 ex0
  have hx0 : 8 + h0.1.1 = 140 := by omega
  obtain ⟨a0, c0x, n0x, q0⟩ := nwF ex0 hx0
  have n0y : x0.1.2 = h0.1.2 + 115 := n0x
  rw [hx0]
  refine ⟨_, (q0 139 (by decide)).trans o0, ?_⟩
  intro y0 ey0
  obtain ⟨b0, c0y, n0z, r0⟩ := ptF ey0
  have s0 : zFr (fun z => z = 139 ∨ z = 140) h0 y0 := (q0.sub (fun z hz => Or.inr hz)).trans (r0.sub (fun z hz => Or.inl hz))
  have v0 : y0.2 140 = zI 0 115 (fun _ => 0) := (r0 140 (by decide)).trans a0
  have fr1 : zFr (fun z => 139 ≤ z) h y0 := fr0.trans (s0.sub (fun z hz => by have hz : z = 139 ∨ z = 140 := hz; show 139 ≤ z; omega))
  refine ⟨⟨by decide, by decide, by omega, by rw [show (115 : Int32).toNatClampNeg = 115 from rfl]; omega⟩, ?_⟩
  intro x1 ex1
  have hx1 : 8 + y0.1.1 = 141 := by omega
  obtain ⟨a1, c1x, n1x, q1⟩ := nwF ex1 hx1
  have n1y : x1.1.2 = y0.1.2 + 115 := n1x
  rw [hx1]
  refine ⟨_, (q1 139 (by decide)).trans b0, ?_⟩
  intro y1 ey1
  obtain ⟨b1, c1y, n1z, r1⟩ := ptF ey1
  have s1 : zFr (fun z => z = 139 ∨ z = 141) y0 y1 := (q1.sub (fun z hz => Or.inr hz)).trans (r1.sub (fun z hz => Or.inl hz))
  have v1 : y1.2 141 = zI 0 115 (fun _ => 0) := (r1 141 (by decide)).trans a1
  have fr2 : zFr (fun z => 139 ≤ z) h y1 := fr1.trans (s1.sub (fun z hz => by have hz : z = 139 ∨ z = 141 := hz; show 139 ≤ z; omega))
  refine ⟨⟨by decide, by decide, by omega, by rw [show (230 : Int32).toNatClampNeg = 230 from rfl]; omega⟩, ?_⟩
  intro x2 ex2
  have hx2 : 8 + y1.1.1 = 142 := by omega
  obtain ⟨a2, c2x, n2x, q2⟩ := nwF ex2 hx2
  have n2y : x2.1.2 = y1.1.2 + 230 := n2x
  rw [hx2]
  refine ⟨_, (q2 139 (by decide)).trans b1, ?_⟩
  intro y2 ey2
  obtain ⟨b2, c2y, n2z, r2⟩ := ptF ey2
  have s2 : zFr (fun z => z = 139 ∨ z = 142) y1 y2 := (q2.sub (fun z hz => Or.inr hz)).trans (r2.sub (fun z hz => Or.inl hz))
  have v2 : y2.2 142 = zI 0 230 (fun _ => 0) := (r2 142 (by decide)).trans a2
  have fr3 : zFr (fun z => 139 ≤ z) h y2 := fr2.trans (s2.sub (fun z hz => by have hz : z = 139 ∨ z = 142 := hz; show 139 ≤ z; omega))
  refine b_Mo_init_29 ⟨⟨by decide, by decide, by omega, by rw [show (2 : Int32).toNatClampNeg = 2 from rfl]; omega⟩, ?_⟩
  intro x3 ex3
  have hx3 : 8 + y2.1.1 = 143 := by omega
  obtain ⟨a3, c3x, n3x, q3⟩ := nwF ex3 hx3
  have n3y : x3.1.2 = y2.1.2 + 2 := n3x
  rw [hx3]
  refine ⟨_, (q3 139 (by decide)).trans b2, ?_⟩
  intro y3 ey3
  obtain ⟨b3, c3y, n3z, r3⟩ := ptF ey3
  have s3 : zFr (fun z => z = 139 ∨ z = 143) y2 y3 := (q3.sub (fun z hz => Or.inr hz)).trans (r3.sub (fun z hz => Or.inl hz))
  have v3 : y3.2 143 = zI 1 2 (fun _ => 0) := (r3 143 (by decide)).trans a3
  have fr4 : zFr (fun z => 139 ≤ z) h y3 := fr3.trans (s3.sub (fun z hz => by have hz : z = 139 ∨ z = 143 := hz; show 139 ≤ z; omega))
  refine ⟨⟨by decide, by decide, by omega, by rw [show (300 : Int32).toNatClampNeg = 300 from rfl]; omega⟩, ?_⟩
  intro x4 ex4
  have hx4 : 8 + y3.1.1 = 144 := by omega
  obtain ⟨a4, c4x, n4x, q4⟩ := nwF ex4 hx4
  have n4y : x4.1.2 = y3.1.2 + 300 := n4x
  rw [hx4]
  refine ⟨_, (q4 139 (by decide)).trans b3, ?_⟩
  intro y4 ey4
  obtain ⟨b4, c4y, n4z, r4⟩ := ptF ey4
  have s4 : zFr (fun z => z = 139 ∨ z = 144) y3 y4 := (q4.sub (fun z hz => Or.inr hz)).trans (r4.sub (fun z hz => Or.inl hz))
  have v4 : y4.2 144 = zI 0 300 (fun _ => 0) := (r4 144 (by decide)).trans a4
  have fr5 : zFr (fun z => 139 ≤ z) h y4 := fr4.trans (s4.sub (fun z hz => by have hz : z = 139 ∨ z = 144 := hz; show 139 ≤ z; omega))
  refine ⟨⟨by decide, by decide, by omega, by rw [show (16 : Int32).toNatClampNeg = 16 from rfl]; omega⟩, ?_⟩
  intro x5 ex5
  have hx5 : 8 + y4.1.1 = 145 := by omega
  obtain ⟨a5, c5x, n5x, q5⟩ := nwF ex5 hx5
  have n5y : x5.1.2 = y4.1.2 + 16 := n5x
  rw [hx5]
  refine ⟨_, (q5 139 (by decide)).trans b4, ?_⟩
  intro y5 ey5
  obtain ⟨b5, c5y, n5z, r5⟩ := ptF ey5
  have s5 : zFr (fun z => z = 139 ∨ z = 145) y4 y5 := (q5.sub (fun z hz => Or.inr hz)).trans (r5.sub (fun z hz => Or.inl hz))
  have v5 : y5.2 145 = zI 1 16 (fun _ => 0) := (r5 145 (by decide)).trans a5
  have fr6 : zFr (fun z => 139 ≤ z) h y5 := fr5.trans (s5.sub (fun z hz => by have hz : z = 139 ∨ z = 145 := hz; show 139 ≤ z; omega))
  refine ⟨⟨by decide, by decide, by omega, by rw [show (16 : Int32).toNatClampNeg = 16 from rfl]; omega⟩, ?_⟩
  intro x6 ex6
  have hx6 : 8 + y5.1.1 = 146 := by omega
  obtain ⟨a6, c6x, n6x, q6⟩ := nwF ex6 hx6
  have n6y : x6.1.2 = y5.1.2 + 16 := n6x
  rw [hx6]
  refine ⟨_, (q6 139 (by decide)).trans b5, ?_⟩
  intro y6 ey6
  obtain ⟨b6, c6y, n6z, r6⟩ := ptF ey6
  have s6 : zFr (fun z => z = 139 ∨ z = 146) y5 y6 := (q6.sub (fun z hz => Or.inr hz)).trans (r6.sub (fun z hz => Or.inl hz))
  have v6 : y6.2 146 = zI 0 16 (fun _ => 0) := (r6 146 (by decide)).trans a6
  have fr7 : zFr (fun z => 139 ≤ z) h y6 := fr6.trans (s6.sub (fun z hz => by have hz : z = 139 ∨ z = 146 := hz; show 139 ≤ z; omega))
  refine ⟨⟨by decide, by decide, by omega, by rw [show (49 : Int32).toNatClampNeg = 49 from rfl]; omega⟩, ?_⟩
  intro x7 ex7
  have hx7 : 8 + y6.1.1 = 147 := by omega
  obtain ⟨a7, c7x, n7x, q7⟩ := nwF ex7 hx7
  have n7y : x7.1.2 = y6.1.2 + 49 := n7x
  rw [hx7]
  refine ⟨_, (q7 139 (by decide)).trans b6, ?_⟩
  intro y7 ey7
  obtain ⟨b7, c7y, n7z, r7⟩ := ptF ey7
  have s7 : zFr (fun z => z = 139 ∨ z = 147) y6 y7 := (q7.sub (fun z hz => Or.inr hz)).trans (r7.sub (fun z hz => Or.inl hz))
  have v7 : y7.2 147 = zI 0 49 (fun _ => 0) := (r7 147 (by decide)).trans a7
  have fr8 : zFr (fun z => 139 ≤ z) h y7 := fr7.trans (s7.sub (fun z hz => by have hz : z = 139 ∨ z = 147 := hz; show 139 ≤ z; omega))
  refine ⟨⟨by decide, by decide, by omega, by rw [show (7 : Int32).toNatClampNeg = 7 from rfl]; omega⟩, ?_⟩
  intro x8 ex8
  have hx8 : 8 + y7.1.1 = 148 := by omega
  obtain ⟨a8, c8x, n8x, q8⟩ := nwF ex8 hx8
  have n8y : x8.1.2 = y7.1.2 + 7 := n8x
  rw [hx8]
  refine ⟨_, (q8 139 (by decide)).trans b7, ?_⟩
  intro y8 ey8
  obtain ⟨b8, c8y, n8z, r8⟩ := ptF ey8
  have s8 : zFr (fun z => z = 139 ∨ z = 148) y7 y8 := (q8.sub (fun z hz => Or.inr hz)).trans (r8.sub (fun z hz => Or.inl hz))
  have v8 : y8.2 148 = zI 0 7 (fun _ => 0) := (r8 148 (by decide)).trans a8
  have fr9 : zFr (fun z => 139 ≤ z) h y8 := fr8.trans (s8.sub (fun z hz => by have hz : z = 139 ∨ z = 148 := hz; show 139 ≤ z; omega))
  refine ⟨⟨by decide, by decide, by omega, by rw [show (7 : Int32).toNatClampNeg = 7 from rfl]; omega⟩, ?_⟩
  intro x9 ex9
  have hx9 : 8 + y8.1.1 = 149 := by omega
  obtain ⟨a9, c9x, n9x, q9⟩ := nwF ex9 hx9
  have n9y : x9.1.2 = y8.1.2 + 7 := n9x
  rw [hx9]
  refine ⟨_, (q9 139 (by decide)).trans b8, ?_⟩
  intro y9 ey9
  obtain ⟨b9, c9y, n9z, r9⟩ := ptF ey9
  have s9 : zFr (fun z => z = 139 ∨ z = 149) y8 y9 := (q9.sub (fun z hz => Or.inr hz)).trans (r9.sub (fun z hz => Or.inl hz))
  have v9 : y9.2 149 = zI 0 7 (fun _ => 0) := (r9 149 (by decide)).trans a9
  have fr10 : zFr (fun z => 139 ≤ z) h y9 := fr9.trans (s9.sub (fun z hz => by have hz : z = 139 ∨ z = 149 := hz; show 139 ≤ z; omega))
  refine ⟨⟨by decide, by decide, by omega, by rw [show (7 : Int32).toNatClampNeg = 7 from rfl]; omega⟩, ?_⟩
  intro x10 ex10
  have hx10 : 8 + y9.1.1 = 150 := by omega
  obtain ⟨a10, c10x, n10x, q10⟩ := nwF ex10 hx10
  have n10y : x10.1.2 = y9.1.2 + 7 := n10x
  rw [hx10]
  refine ⟨_, (q10 139 (by decide)).trans b9, ?_⟩
  intro y10 ey10
  obtain ⟨b10, c10y, n10z, r10⟩ := ptF ey10
  have s10 : zFr (fun z => z = 139 ∨ z = 150) y9 y10 := (q10.sub (fun z hz => Or.inr hz)).trans (r10.sub (fun z hz => Or.inl hz))
  have v10 : y10.2 150 = zI 0 7 (fun _ => 0) := (r10 150 (by decide)).trans a10
  have fr11 : zFr (fun z => 139 ≤ z) h y10 := fr10.trans (s10.sub (fun z hz => by have hz : z = 139 ∨ z = 150 := hz; show 139 ≤ z; omega))
  refine ⟨⟨by decide, by decide, by omega, by rw [show (7 : Int32).toNatClampNeg = 7 from rfl]; omega⟩, ?_⟩
  intro x11 ex11
  have hx11 : 8 + y10.1.1 = 151 := by omega
  obtain ⟨a11, c11x, n11x, q11⟩ := nwF ex11 hx11
  have n11y : x11.1.2 = y10.1.2 + 7 := n11x
  rw [hx11]
  refine ⟨_, (q11 139 (by decide)).trans b10, ?_⟩
  intro y11 ey11
  obtain ⟨b11, c11y, n11z, r11⟩ := ptF ey11
  have s11 : zFr (fun z => z = 139 ∨ z = 151) y10 y11 := (q11.sub (fun z hz => Or.inr hz)).trans (r11.sub (fun z hz => Or.inl hz))
  have v11 : y11.2 151 = zI 0 7 (fun _ => 0) := (r11 151 (by decide)).trans a11
  have fr12 : zFr (fun z => 139 ≤ z) h y11 := fr11.trans (s11.sub (fun z hz => by have hz : z = 139 ∨ z = 151 := hz; show 139 ≤ z; omega))
  refine b_Mo_init_101 ⟨⟨by decide, by decide, by omega, by rw [show (7 : Int32).toNatClampNeg = 7 from rfl]; omega⟩, ?_⟩
  intro x12 ex12
  have hx12 : 8 + y11.1.1 = 152 := by omega
  obtain ⟨a12, c12x, n12x, q12⟩ := nwF ex12 hx12
  have n12y : x12.1.2 = y11.1.2 + 7 := n12x
  rw [hx12]
  refine ⟨_, (q12 139 (by decide)).trans b11, ?_⟩
  intro y12 ey12
  obtain ⟨b12, c12y, n12z, r12⟩ := ptF ey12
  have s12 : zFr (fun z => z = 139 ∨ z = 152) y11 y12 := (q12.sub (fun z hz => Or.inr hz)).trans (r12.sub (fun z hz => Or.inl hz))
  have v12 : y12.2 152 = zI 0 7 (fun _ => 0) := (r12 152 (by decide)).trans a12
  have fr13 : zFr (fun z => 139 ≤ z) h y12 := fr12.trans (s12.sub (fun z hz => by have hz : z = 139 ∨ z = 152 := hz; show 139 ≤ z; omega))
  refine ⟨⟨by decide, by decide, by omega, by rw [show (4 : Int32).toNatClampNeg = 4 from rfl]; omega⟩, ?_⟩
  intro x13 ex13
  have hx13 : 8 + y12.1.1 = 153 := by omega
  obtain ⟨a13, c13x, n13x, q13⟩ := nwF ex13 hx13
  have n13y : x13.1.2 = y12.1.2 + 4 := n13x
  rw [hx13]
  refine ⟨_, (q13 139 (by decide)).trans b12, ?_⟩
  intro y13 ey13
  obtain ⟨b13, c13y, n13z, r13⟩ := ptF ey13
  have s13 : zFr (fun z => z = 139 ∨ z = 153) y12 y13 := (q13.sub (fun z hz => Or.inr hz)).trans (r13.sub (fun z hz => Or.inl hz))
  have v13 : y13.2 153 = zI 0 4 (fun _ => 0) := (r13 153 (by decide)).trans a13
  have fr14 : zFr (fun z => 139 ≤ z) h y13 := fr13.trans (s13.sub (fun z hz => by have hz : z = 139 ∨ z = 153 := hz; show 139 ≤ z; omega))
  refine ⟨⟨by decide, by decide, by omega, by rw [show (4 : Int32).toNatClampNeg = 4 from rfl]; omega⟩, ?_⟩
  intro x14 ex14
  have hx14 : 8 + y13.1.1 = 154 := by omega
  obtain ⟨a14, c14x, n14x, q14⟩ := nwF ex14 hx14
  have n14y : x14.1.2 = y13.1.2 + 4 := n14x
  rw [hx14]
  refine ⟨_, (q14 139 (by decide)).trans b13, ?_⟩
  intro y14 ey14
  obtain ⟨b14, c14y, n14z, r14⟩ := ptF ey14
  have s14 : zFr (fun z => z = 139 ∨ z = 154) y13 y14 := (q14.sub (fun z hz => Or.inr hz)).trans (r14.sub (fun z hz => Or.inl hz))
  have v14 : y14.2 154 = zI 0 4 (fun _ => 0) := (r14 154 (by decide)).trans a14
  have fr15 : zFr (fun z => 139 ≤ z) h y14 := fr14.trans (s14.sub (fun z hz => by have hz : z = 139 ∨ z = 154 := hz; show 139 ≤ z; omega))
  refine ⟨⟨by decide, by decide, by omega, by rw [show (192 : Int32).toNatClampNeg = 192 from rfl]; omega⟩, ?_⟩
  intro x15 ex15
  have hx15 : 8 + y14.1.1 = 155 := by omega
  obtain ⟨a15, c15x, n15x, q15⟩ := nwF ex15 hx15
  have n15y : x15.1.2 = y14.1.2 + 192 := n15x
  rw [hx15]
  refine ⟨_, (q15 139 (by decide)).trans b14, ?_⟩
  intro y15 ey15
  obtain ⟨b15, c15y, n15z, r15⟩ := ptF ey15
  have s15 : zFr (fun z => z = 139 ∨ z = 155) y14 y15 := (q15.sub (fun z hz => Or.inr hz)).trans (r15.sub (fun z hz => Or.inl hz))
  have v15 : y15.2 155 = zI 0 192 (fun _ => 0) := (r15 155 (by decide)).trans a15
  have fr16 : zFr (fun z => 139 ≤ z) h y15 := fr15.trans (s15.sub (fun z hz => by have hz : z = 139 ∨ z = 155 := hz; show 139 ≤ z; omega))
  have gR : ∃ G, y15.2 139 = zO 10 G ∧ mR G ∧ G 5 = .int (nI 0) ∧ G 10 = .int 0 ∧ G 30 = .int 0 := ⟨_, b15, ⟨rfl, rfl, rfl, rfl, rfl, rfl, rfl, rfl, rfl, rfl, rfl, rfl, rfl, rfl, rfl, rfl⟩, rfl, rfl, rfl⟩
  have z0 : y15.2 140 = zI 0 115 (fun _ => 0) := ((s15 140 (by decide)).trans ((s14 140 (by decide)).trans ((s13 140 (by decide)).trans ((s12 140 (by decide)).trans ((s11 140 (by decide)).trans ((s10 140 (by decide)).trans ((s9 140 (by decide)).trans ((s8 140 (by decide)).trans ((s7 140 (by decide)).trans ((s6 140 (by decide)).trans ((s5 140 (by decide)).trans ((s4 140 (by decide)).trans ((s3 140 (by decide)).trans ((s2 140 (by decide)).trans ((s1 140 (by decide)).trans v0)))))))))))))))
  have z1 : y15.2 141 = zI 0 115 (fun _ => 0) := ((s15 141 (by decide)).trans ((s14 141 (by decide)).trans ((s13 141 (by decide)).trans ((s12 141 (by decide)).trans ((s11 141 (by decide)).trans ((s10 141 (by decide)).trans ((s9 141 (by decide)).trans ((s8 141 (by decide)).trans ((s7 141 (by decide)).trans ((s6 141 (by decide)).trans ((s5 141 (by decide)).trans ((s4 141 (by decide)).trans ((s3 141 (by decide)).trans ((s2 141 (by decide)).trans v1))))))))))))))
  have z2 : y15.2 142 = zI 0 230 (fun _ => 0) := ((s15 142 (by decide)).trans ((s14 142 (by decide)).trans ((s13 142 (by decide)).trans ((s12 142 (by decide)).trans ((s11 142 (by decide)).trans ((s10 142 (by decide)).trans ((s9 142 (by decide)).trans ((s8 142 (by decide)).trans ((s7 142 (by decide)).trans ((s6 142 (by decide)).trans ((s5 142 (by decide)).trans ((s4 142 (by decide)).trans ((s3 142 (by decide)).trans v2)))))))))))))
  have z3 : y15.2 143 = zI 1 2 (fun _ => 0) := ((s15 143 (by decide)).trans ((s14 143 (by decide)).trans ((s13 143 (by decide)).trans ((s12 143 (by decide)).trans ((s11 143 (by decide)).trans ((s10 143 (by decide)).trans ((s9 143 (by decide)).trans ((s8 143 (by decide)).trans ((s7 143 (by decide)).trans ((s6 143 (by decide)).trans ((s5 143 (by decide)).trans ((s4 143 (by decide)).trans v3))))))))))))
  have z4 : y15.2 144 = zI 0 300 (fun _ => 0) := ((s15 144 (by decide)).trans ((s14 144 (by decide)).trans ((s13 144 (by decide)).trans ((s12 144 (by decide)).trans ((s11 144 (by decide)).trans ((s10 144 (by decide)).trans ((s9 144 (by decide)).trans ((s8 144 (by decide)).trans ((s7 144 (by decide)).trans ((s6 144 (by decide)).trans ((s5 144 (by decide)).trans v4)))))))))))
  have z5 : y15.2 145 = zI 1 16 (fun _ => 0) := ((s15 145 (by decide)).trans ((s14 145 (by decide)).trans ((s13 145 (by decide)).trans ((s12 145 (by decide)).trans ((s11 145 (by decide)).trans ((s10 145 (by decide)).trans ((s9 145 (by decide)).trans ((s8 145 (by decide)).trans ((s7 145 (by decide)).trans ((s6 145 (by decide)).trans v5))))))))))
  have z6 : y15.2 146 = zI 0 16 (fun _ => 0) := ((s15 146 (by decide)).trans ((s14 146 (by decide)).trans ((s13 146 (by decide)).trans ((s12 146 (by decide)).trans ((s11 146 (by decide)).trans ((s10 146 (by decide)).trans ((s9 146 (by decide)).trans ((s8 146 (by decide)).trans ((s7 146 (by decide)).trans v6)))))))))
  have z7 : y15.2 147 = zI 0 49 (fun _ => 0) := ((s15 147 (by decide)).trans ((s14 147 (by decide)).trans ((s13 147 (by decide)).trans ((s12 147 (by decide)).trans ((s11 147 (by decide)).trans ((s10 147 (by decide)).trans ((s9 147 (by decide)).trans ((s8 147 (by decide)).trans v7))))))))
  have z8 : y15.2 148 = zI 0 7 (fun _ => 0) := ((s15 148 (by decide)).trans ((s14 148 (by decide)).trans ((s13 148 (by decide)).trans ((s12 148 (by decide)).trans ((s11 148 (by decide)).trans ((s10 148 (by decide)).trans ((s9 148 (by decide)).trans v8)))))))
  have z9 : y15.2 149 = zI 0 7 (fun _ => 0) := ((s15 149 (by decide)).trans ((s14 149 (by decide)).trans ((s13 149 (by decide)).trans ((s12 149 (by decide)).trans ((s11 149 (by decide)).trans ((s10 149 (by decide)).trans v9))))))
  have z10 : y15.2 150 = zI 0 7 (fun _ => 0) := ((s15 150 (by decide)).trans ((s14 150 (by decide)).trans ((s13 150 (by decide)).trans ((s12 150 (by decide)).trans ((s11 150 (by decide)).trans v10)))))
  have z11 : y15.2 151 = zI 0 7 (fun _ => 0) := ((s15 151 (by decide)).trans ((s14 151 (by decide)).trans ((s13 151 (by decide)).trans ((s12 151 (by decide)).trans v11))))
  have z12 : y15.2 152 = zI 0 7 (fun _ => 0) := ((s15 152 (by decide)).trans ((s14 152 (by decide)).trans ((s13 152 (by decide)).trans v12)))
  have z13 : y15.2 153 = zI 0 4 (fun _ => 0) := ((s15 153 (by decide)).trans ((s14 153 (by decide)).trans v13))
  have z14 : y15.2 154 = zI 0 4 (fun _ => 0) := ((s15 154 (by decide)).trans v14)
  have z15 : y15.2 155 = zI 0 192 (fun _ => 0) := v15
  have cc : y15.1.1 = h0.1.1 + 16 := by omega
  have nn : y15.1.2 = h0.1.2 + 1078 := by omega
  obtain ⟨G, hG, gR, g5, g10, g30⟩ := gR
  clear s0 q0 r0 s1 q1 r1 s2 q2 r2 s3 q3 r3 s4 q4 r4 s5 q5 r5 s6 q6 r6 s7 q7 r7 s8 q8 r8 s9 q9 r9 s10 q10 r10 s11 q11 r11 s12 q12 r12 s13 q13 r13 s14 q14 r14 s15 q15 r15
  refine ⟨G, hG, _, gR.1, 115, _, z0, zi0, ?_⟩
  intro h1 e1
  obtain ⟨o1, c1, n1, f1⟩ := ptF e1
  refine ⟨G, (f1 139 (by decide)).trans hG, _, gR.1, 115, _, o1, zi1, ?_⟩
  intro h2 e2
  obtain ⟨o2, c2, n2, f2⟩ := ptF e2
  refine ⟨G, (f2 139 (by decide)).trans ((f1 139 (by decide)).trans hG), _, gR.1, 115, _, o2, zi2, ?_⟩
  intro h3 e3
  obtain ⟨o3, c3, n3, f3⟩ := ptF e3
  have f13 : zFr (fun z => z = 140) y15 h3 := (f1.trans f2).trans f3
  refine ⟨G, (f13 139 (by decide)).trans hG, _, gR.1, cM_empties o3 (fun f' hf1 hf2 => ⟨rfl, ?_⟩)⟩
  have fr4 : zFr (fun z => z = 140) y15 (zP h3 140 (zI 0 115 f')) := f13.trans (zFr.put rfl)
  have o4 : (zP h3 140 (zI 0 115 f')).2 140 = zI 0 115 f' := zP_same _ _ _
  have c4 : (zP h3 140 (zI 0 115 f')).1.1 = y15.1.1 := by show h3.1.1 = _; omega
  have n4 : (zP h3 140 (zI 0 115 f')).1.2 = y15.1.2 := by show h3.1.2 = _; omega
  generalize zP h3 140 (zI 0 115 f') = h4 at fr4 o4 c4 n4 ⊢
  have loop : ∀ m j (h5 : zH) (g : Nat → Int32), j + m = 4 → h5.1.1 = y15.1.1 → h5.1.2 = y15.1.2 → h5.2 153 = zI 0 4 g → (∀ i, i < j → g i = -4) → zFr (fun z => z = 153) h4 h5 → zW (d + 2) m_Mo_init h0.1 162 [.ref 139, .int (nI j)] [] h5 Q := by
    intro m
    induction m with
    | zero =>
      intro j h5 g hj c5 n5 o5 hg f5
      have : j = 4 := by omega
      subst this
      have fr5 : zFr (fun z => z = 140 ∨ z = 153) y15 h5 := (fr4.sub (fun z hz => Or.inl hz)).trans (f5.sub (fun z hz => Or.inr hz))
      refine b_Mo_init_162 (ifT (show nI 4 ≤ nI 4 from Int32.le_refl _) ⟨p2 (by omega) (by omega), K h5 ⟨⟨G, (fr5 139 (by decide)).trans hG, gR, g5, g10, g30⟩, ⟨f', (f5 140 (by decide)).trans o4, ?_, ?_, ?_, hf2⟩, ⟨⟨_, (fr5 141 (by decide)).trans z1⟩, ⟨⟨_, (fr5 145 (by decide)).trans z5⟩, ⟨_, (fr5 146 (by decide)).trans z6⟩, ⟨_, (fr5 147 (by decide)).trans z7⟩, ⟨_, (fr5 148 (by decide)).trans z8⟩, ⟨_, (fr5 149 (by decide)).trans z9⟩, _, (fr5 150 (by decide)).trans z10⟩, ⟨_, (fr5 151 (by decide)).trans z11⟩, _, (fr5 152 (by decide)).trans z12⟩, ⟨⟨_, (fr5 142 (by decide)).trans z2, fun j _ q => by cases q⟩, _, (fr5 143 (by decide)).trans z3, fun j _ => rfl⟩, ⟨_, (fr5 144 (by decide)).trans z4, fun i _ => rfl⟩, ⟨⟨g, o5, fun j hj => hg j hj⟩, ⟨_, (fr5 154 (by decide)).trans z14, fun j _ q => absurd rfl q⟩, _, (fr5 155 (by decide)).trans z15, fun j _ i _ => rfl⟩⟩ (fr16.trans (fr5.sub (fun z hz => by have hz : z = 140 ∨ z = 153 := hz; show 139 ≤ z; omega)))⟩)
      · exact (hf1 0 (by decide)).trans rfl
      · exact (hf1 1 (by decide)).trans rfl
      · exact (hf1 2 (by decide)).trans rfl
    | succ m ih =>
      intro j h5 g hj c5 n5 o5 hg f5
      refine b_Mo_init_162 (ifF (show ¬ nI 4 ≤ nI j from nI_ge (by omega) (by decide)) ⟨G, (f5 139 (by decide)).trans ((fr4 139 (by decide)).trans hG), _, gR.2.2.2.2.2.2.2.2.2.2.2.2.2.1, 4, g, o5, zIn_nI (by omega) (by decide), ?_⟩)
      intro h6 e6
      obtain ⟨o6, c6, n6, f6⟩ := ptF e6
      rw [nI_clamp (by omega)] at o6
      rw [nI_1]
      refine ih (j + 1) h6 _ (by omega) (by omega) (by omega) o6 (fun i hi => ?_) (f5.trans f6)
      by_cases ei : i = j
      · rw [ei, zU_same]
      · rw [zU_ne _ _ ei]; exact hg i (by omega)
  exact loop 4 0 h4 _ (by decide) c4 n4 ((fr4 153 (by decide)).trans z13) (fun i hi => by omega) zFr.rf
end C
