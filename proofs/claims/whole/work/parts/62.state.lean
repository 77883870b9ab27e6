/-! One state for both -/
abbrev bkT : Type := Nat × Int32 × Int32 × (Nat → Int32)
abbrev tpT : Type := Nat × (Nat → Int32)
abbrev imT : Type := Nat → Bool × bkT
abbrev shT : Type := Nat → Int32 × Int32 × (Nat → Int32)
def bkI (B : bkT) : Prop := (1 ≤ B.1 ∧ B.1 ≤ 7) ∧ (0 ≤ B.2.1 ∧ B.2.1 ≤ 99) ∧ (2 ≤ B.2.2.1 ∧ B.2.2.1 ≤ 6) ∧ StK B.2.2.2
def tpI (t : tpT) : Prop := t.1 ≤ 300 ∧ TpK t.1 t.2
def imI (I : imT) : Prop := ∀ k, k < 2 → (I k).1 = true → bkI (I k).2
def shI (H : shT) : Prop := ∀ k, k < 4 → (H k).1 = -1 ∨ ((∃ m, m ≤ 48 ∧ (H k).1 = nI m) ∧ ∃ j, j < 3 ∧ (H k).2.1 = nI j)
def x8 (h : zH) (f o : Int32) : Prop := ∃ F, h.2 8 = zO 9 F ∧ blR F ∧ F 10 = .int f ∧ F 11 = .int o
def xT (h : zH) (t : tpT) : Prop := (∃ F, h.2 9 = zO 6 F ∧ F 0 = .ref 10 ∧ F 1 = .ref 12) ∧ (∃ n l q S, bkA h 12 n l q S) ∧ tpA h t.1 t.2
def xW (h : zH) (k : Nat) (B : bkT) : Prop := bkA h 15 (nI B.1) B.2.1 B.2.2.1 B.2.2.2 ∧ (∃ nw, nw ≤ k ∧ wbA h B.2.2.2 B.2.1 B.2.2.1 nw) ∧ chO h
def xD (h : zH) : Prop := (∃ x j, drA h x j 0) ∧ ∃ F, h.2 123 = zO 7 F
def xI (h : zH) (I : imT) : Prop := (∃ g, h.2 124 = zR 0 2 g ∧ ∀ j, j < 2 → g j = some (127 + 2 * j)) ∧ (∃ g, h.2 125 = zI 1 2 g ∧ ∀ j, j < 2 → g j = b01 (I j).1) ∧ ∀ j, j < 2 → (∃ n l q S, bkA h (127 + 2 * j) n l q S) ∧ ((I j).1 = true → bkA h (127 + 2 * j) (nI (I j).2.1) (I j).2.2.1 (I j).2.2.2.1 (I j).2.2.2.2)
def xH (h : zH) (H : shT) : Prop := (∃ g, h.2 126 = zR 4 4 g ∧ ∀ j, j < 4 → g j = some (131 + 2 * j)) ∧ ∀ j, j < 4 → shA h (131 + 2 * j) (H j).1 (H j).2.1 (fun i => ((H j).2.2 i).toInt64)
def CA (h : zH) (k : Nat) (B : bkT) (t : tpT) (I : imT) (H : shT) (f o : Int32) : Prop := x8 h f o ∧ xT h t ∧ xW h k B ∧ xD h ∧ xI h I ∧ xH h H
def y0 (h : zH) (t : tpT) (f o : Int32) : Prop := ∃ G, h.2 139 = zO 10 G ∧ mR G ∧ G 5 = .int (nI t.1) ∧ G 10 = .int f ∧ G 30 = .int o
def yI (h : zH) (I : imT) : Prop := (∃ g, h.2 142 = zI 0 230 g ∧ ∀ j, j < 2 → (I j).1 = true → g (115 * j) = nI (I j).2.1 ∧ g (115 * j + 1) = (I j).2.2.1 ∧ g (115 * j + 2) = (I j).2.2.2.1 ∧ ∀ k, k < 112 → g (115 * j + (3 + k)) = (I j).2.2.2.2 k) ∧ ∃ g, h.2 143 = zI 1 2 g ∧ ∀ j, j < 2 → g j = b01 (I j).1
def yH (h : zH) (H : shT) : Prop := (∃ g, h.2 153 = zI 0 4 g ∧ ∀ j, j < 4 → g j = if (H j).1 = -1 then -4 else (H j).2.1) ∧ (∃ g, h.2 154 = zI 0 4 g ∧ ∀ j, j < 4 → (H j).1 ≠ -1 → g j = (H j).1) ∧ ∃ g, h.2 155 = zI 0 192 g ∧ ∀ j, j < 4 → ∀ i, i < 48 → g (48 * j + i) = (H j).2.2 i
def yM (h : zH) (B : bkT) : Prop := msA h (nI B.1) B.2.1 B.2.2.1 B.2.2.2
def yS (h : zH) : Prop := (∃ g, h.2 141 = zI 0 115 g) ∧ mAr h ∧ (∃ f, h.2 151 = zI 0 7 f) ∧ ∃ f, h.2 152 = zI 0 7 f
def MA (h : zH) (B : bkT) (t : tpT) (I : imT) (H : shT) (f o : Int32) : Prop := y0 h t f o ∧ yM h B ∧ yS h ∧ yI h I ∧ mtA h t.1 t.2 ∧ yH h H
section F
variable {A : Nat → Prop} {h h' : zH} {k k' : Nat} {B B' : bkT} {t t' : tpT} {I I' : imT} {H H' : shT} {f o f' o' : Int32}
theorem zex {p : zCell → Prop} {a : Nat} (w : p (h.2 a)) (fr : zFr A h h') (ha : ¬ A a) : p (h'.2 a) := by rw [fr a ha]; exact w
theorem x8.fr (c : x8 h f o) (fr : zFr A h h') (hA : ¬ A 8) : x8 h' f o := zex (p := fun c => ∃ F, c = zO 9 F ∧ blR F ∧ F 10 = .int f ∧ F 11 = .int o) c fr hA
theorem xT.fr (c : xT h t) (fr : zFr A h h') (hA : ∀ z, 9 ≤ z → z < 14 → ¬ A z) : xT h' t := by
  obtain ⟨c1, ⟨n, l, q, S, c2⟩, c3⟩ := c
  exact ⟨zex (p := fun c => ∃ F, c = zO 6 F ∧ F 0 = .ref 10 ∧ F 1 = .ref 12) c1 fr (hA 9 (by decide) (by decide)), ⟨n, l, q, S, c2.fr fr (hA 12 (by decide) (by decide)) (hA 13 (by decide) (by decide))⟩, c3.fr fr (hA 10 (by decide) (by decide)) (hA 11 (by decide) (by decide))⟩
theorem xW.fr (c : xW h k B) (fr : zFr A h h') (hA : ∀ z, 14 ≤ z → z < 120 → ¬ A z) : xW h' k B := by
  obtain ⟨c1, ⟨nw, c2, c3⟩, c4⟩ := c
  exact ⟨c1.fr fr (hA 15 (by decide) (by decide)) (hA 16 (by decide) (by decide)), ⟨nw, c2, c3.fr fr (fun z hz hq => hA z (by omega) (by omega) hz)⟩, c4.fr fr (fun z hz hq => hA z (by omega) (by omega) hz)⟩
theorem xD.fr (c : xD h) (fr : zFr A h h') (hA : ∀ z, 120 ≤ z → z < 124 → ¬ A z) : xD h' := by
  obtain ⟨⟨x, j, c1⟩, c2⟩ := c
  exact ⟨⟨x, j, c1.fr fr (hA 120 (by decide) (by decide)) (hA 121 (by decide) (by decide)) (hA 122 (by decide) (by decide))⟩, zex (p := fun c => ∃ F, c = zO 7 F) c2 fr (hA 123 (by decide) (by decide))⟩
theorem xI.fr (c : xI h I) (fr : zFr A h h') (hA : ∀ z, 124 ≤ z → z < 131 → z ≠ 126 → ¬ A z) : xI h' I := by
  obtain ⟨c1, c2, c3⟩ := c
  refine ⟨zex (p := fun c => ∃ g, c = zR 0 2 g ∧ ∀ j, j < 2 → g j = some (127 + 2 * j)) c1 fr (hA 124 (by decide) (by decide) (by decide)), zex (p := fun c => ∃ g, c = zI 1 2 g ∧ ∀ j, j < 2 → g j = b01 (I j).1) c2 fr (hA 125 (by decide) (by decide) (by decide)), fun j hj => ?_⟩
  obtain ⟨⟨n, l, q, S, d1⟩, d2⟩ := c3 j hj
  exact ⟨⟨n, l, q, S, d1.fr fr (hA _ (by omega) (by omega) (by omega)) (hA _ (by omega) (by omega) (by omega))⟩, fun w => (d2 w).fr fr (hA _ (by omega) (by omega) (by omega)) (hA _ (by omega) (by omega) (by omega))⟩
theorem xH.fr (c : xH h H) (fr : zFr A h h') (hA : ∀ z, z = 126 ∨ (131 ≤ z ∧ z < 139) → ¬ A z) : xH h' H := by
  obtain ⟨c1, c2⟩ := c
  exact ⟨zex (p := fun c => ∃ g, c = zR 4 4 g ∧ ∀ j, j < 4 → g j = some (131 + 2 * j)) c1 fr (hA 126 (by omega)), fun j hj => (c2 j hj).fr fr (hA _ (by omega)) (hA _ (by omega))⟩
theorem xW.up (c : xW h k B) (hk : k ≤ k') : xW h k' B := by
  obtain ⟨c1, ⟨nw, c2, c3⟩, c4⟩ := c
  exact ⟨c1, ⟨nw, by omega, c3⟩, c4⟩
theorem y0.fr (c : y0 h t f o) (fr : zFr A h h') (hA : ¬ A 139) : y0 h' t f o := zex (p := fun c => ∃ G, c = zO 10 G ∧ mR G ∧ G 5 = .int (nI t.1) ∧ G 10 = .int f ∧ G 30 = .int o) c fr hA
theorem yI.fr (c : yI h I) (fr : zFr A h h') (h1 : ¬ A 142) (h2 : ¬ A 143) : yI h' I := by
  unfold yI
  rw [fr _ h1, fr _ h2]
  exact c
theorem yH.fr (c : yH h H) (fr : zFr A h h') (h1 : ¬ A 153) (h2 : ¬ A 154) (h3 : ¬ A 155) : yH h' H := by
  unfold yH
  rw [fr _ h1, fr _ h2, fr _ h3]
  exact c
theorem yM.fr (c : yM h B) (fr : zFr A h h') (h1 : ¬ A 140) : yM h' B := msA.fr c fr h1
theorem mAr.fr (c : mAr h) (fr : zFr A h h') (hA : ∀ z, 145 ≤ z → z < 151 → ¬ A z) : mAr h' := by
  unfold mAr
  rw [fr _ (hA 145 (by decide) (by decide)), fr _ (hA 146 (by decide) (by decide)), fr _ (hA 147 (by decide) (by decide)), fr _ (hA 148 (by decide) (by decide)), fr _ (hA 149 (by decide) (by decide)), fr _ (hA 150 (by decide) (by decide))]
  exact c
theorem yS.fr (c : yS h) (fr : zFr A h h') (hA : ∀ z, z = 141 ∨ (145 ≤ z ∧ z < 153) → ¬ A z) : yS h' := by
  obtain ⟨c1, c2, c3, c4⟩ := c
  refine ⟨?_, c2.fr fr (fun z a b => hA z (by omega)), ?_, ?_⟩
  · rw [fr _ (hA 141 (by omega))]; exact c1
  · rw [fr _ (hA 151 (by omega))]; exact c3
  · rw [fr _ (hA 152 (by omega))]; exact c4
theorem CA.fr (c : CA h k B t I H f o) (fr : zFr A h h') (hA : ∀ z, A z → 139 ≤ z) : CA h' k B t I H f o := by
  obtain ⟨c1, c2, c3, c4, c5, c6⟩ := c
  have n : ∀ z, z < 139 → ¬ A z := fun z hz q => by have := hA z q; omega
  exact ⟨c1.fr fr (n 8 (by decide)), c2.fr fr (fun z a b => n z (by omega)), c3.fr fr (fun z a b => n z (by omega)), c4.fr fr (fun z a b => n z (by omega)), c5.fr fr (fun z a b _ => n z (by omega)), c6.fr fr (fun z a => n z (by omega))⟩
theorem MA.fr (c : MA h B t I H f o) (fr : zFr A h h') (hA : ∀ z, A z → z < 139) : MA h' B t I H f o := by
  obtain ⟨c1, c2, c3, c4, c5, c6⟩ := c
  have n : ∀ z, 139 ≤ z → ¬ A z := fun z hz q => by have := hA z q; omega
  exact ⟨c1.fr fr (n _ (by decide)), c2.fr fr (n _ (by decide)), c3.fr fr (fun z a => n z (by omega)), c4.fr fr (n _ (by decide)) (n _ (by decide)), c5.fr fr (n _ (by decide)), c6.fr fr (n _ (by decide)) (n _ (by decide)) (n _ (by decide))⟩
theorem CA.up (c : CA h k B t I H f o) (hk : k ≤ k') : CA h k' B t I H f o := ⟨c.1, c.2.1, c.2.2.1.up hk, c.2.2.2⟩
/-- only book, lines and chains have changed -/
theorem CA.wb (c : CA h k B t I H f o) (fr : zFr A h h') (hA : ∀ z, A z → 14 ≤ z ∧ z < 120) (w : xW h' k' B') : CA h' k' B' t I H f o := by
  obtain ⟨c1, c2, c3, c4, c5, c6⟩ := c
  have n : ∀ z, ¬ (14 ≤ z ∧ z < 120) → ¬ A z := fun z hz q => hz (hA z q)
  exact ⟨c1.fr fr (n _ (by decide)), c2.fr fr (fun z a b => n z (by omega)), w, c4.fr fr (fun z a b => n z (by omega)), c5.fr fr (fun z a b _ => n z (by omega)), c6.fr fr (fun z a => n z (by omega))⟩
theorem CA.tx (c : CA h k B t I H f o) (fr : zFr A h h') (hA : ∀ z, A z → 9 ≤ z ∧ z < 14) (w : xT h' t') : CA h' k B t' I H f o := by
  obtain ⟨c1, c2, c3, c4, c5, c6⟩ := c
  have n : ∀ z, ¬ (9 ≤ z ∧ z < 14) → ¬ A z := fun z hz q => hz (hA z q)
  exact ⟨c1.fr fr (n _ (by decide)), w, c3.fr fr (fun z a b => n z (by omega)), c4.fr fr (fun z a b => n z (by omega)), c5.fr fr (fun z a b _ => n z (by omega)), c6.fr fr (fun z a => n z (by omega))⟩
theorem CA.im (c : CA h k B t I H f o) (fr : zFr A h h') (hA : ∀ z, A z → 124 ≤ z ∧ z < 131 ∧ z ≠ 126) (w : xI h' I') : CA h' k B t I' H f o := by
  obtain ⟨c1, c2, c3, c4, c5, c6⟩ := c
  have n : ∀ z, ¬ (124 ≤ z ∧ z < 131 ∧ z ≠ 126) → ¬ A z := fun z hz q => hz (hA z q)
  exact ⟨c1.fr fr (n _ (by decide)), c2.fr fr (fun z a b => n z (by omega)), c3.fr fr (fun z a b => n z (by omega)), c4.fr fr (fun z a b => n z (by omega)), w, c6.fr fr (fun z a => n z (by omega))⟩
theorem CA.sh (c : CA h k B t I H f o) (fr : zFr A h h') (hA : ∀ z, A z → 131 ≤ z ∧ z < 139) (w : xH h' H') : CA h' k B t I H' f o := by
  obtain ⟨c1, c2, c3, c4, c5, c6⟩ := c
  have n : ∀ z, ¬ (131 ≤ z ∧ z < 139) → ¬ A z := fun z hz q => hz (hA z q)
  exact ⟨c1.fr fr (n _ (by decide)), c2.fr fr (fun z a b => n z (by omega)), c3.fr fr (fun z a b => n z (by omega)), c4.fr fr (fun z a b => n z (by omega)), c5.fr fr (fun z a b _ => n z (by omega)), w⟩
theorem CA.ob (c : CA h k B t I H f o) (fr : zFr A h h') (hA : ∀ z, A z → z = 8) (w : x8 h' f' o') : CA h' k B t I H f' o' := by
  obtain ⟨c1, c2, c3, c4, c5, c6⟩ := c
  have n : ∀ z, z ≠ 8 → ¬ A z := fun z hz q => hz (hA z q)
  exact ⟨w, c2.fr fr (fun z a b => n z (by omega)), c3.fr fr (fun z a b => n z (by omega)), c4.fr fr (fun z a b => n z (by omega)), c5.fr fr (fun z a b _ => n z (by omega)), c6.fr fr (fun z a => n z (by omega))⟩
theorem CA.dr (c : CA h k B t I H f o) (fr : zFr A h h') (hA : ∀ z, A z → 120 ≤ z ∧ z < 124) (w : xD h') : CA h' k B t I H f o := by
  obtain ⟨c1, c2, c3, c4, c5, c6⟩ := c
  have n : ∀ z, ¬ (120 ≤ z ∧ z < 124) → ¬ A z := fun z hz q => hz (hA z q)
  exact ⟨c1.fr fr (n _ (by decide)), c2.fr fr (fun z a b => n z (by omega)), c3.fr fr (fun z a b => n z (by omega)), w, c5.fr fr (fun z a b _ => n z (by omega)), c6.fr fr (fun z a => n z (by omega))⟩
/-- only the Model's object and its scratch rows have changed -/
theorem MA.sc (c : MA h B t I H f o) (fr : zFr A h h') (hA : ∀ z, A z → z = 139 ∨ (145 ≤ z ∧ z < 151)) (w : y0 h' t f' o') (w2 : mAr h') : MA h' B t I H f' o' := by
  obtain ⟨c1, c2, ⟨c3, -, d3, e3⟩, c4, c5, c6⟩ := c
  have n : ∀ z, ¬ (z = 139 ∨ (145 ≤ z ∧ z < 151)) → ¬ A z := fun z hz q => hz (hA z q)
  exact ⟨w, c2.fr fr (n _ (by decide)), ⟨by rw [fr _ (n _ (by decide))]; exact c3, w2, by rw [fr _ (n _ (by decide))]; exact d3, by rw [fr _ (n _ (by decide))]; exact e3⟩, c4.fr fr (n _ (by decide)) (n _ (by decide)), c5.fr fr (n _ (by decide)), c6.fr fr (n _ (by decide)) (n _ (by decide)) (n _ (by decide))⟩
/-- only the Model's stamps have changed -/
theorem MA.st (c : MA h B t I H f o) (fr : zFr A h h') (hA : ∀ z, A z → z = 140) (w : yM h' B') : MA h' B' t I H f o := by
  obtain ⟨c1, c2, c3, c4, c5, c6⟩ := c
  have n : ∀ z, z ≠ 140 → ¬ A z := fun z hz q => hz (hA z q)
  exact ⟨c1.fr fr (n _ (by decide)), w, c3.fr fr (fun z a => n z (by omega)), c4.fr fr (n _ (by decide)) (n _ (by decide)), c5.fr fr (n _ (by decide)), c6.fr fr (n _ (by decide)) (n _ (by decide)) (n _ (by decide))⟩
end F
/-- both, with the bounds -/
def AB (h : zH) (k : Nat) : Prop := ∃ B t I H f o, CA h k B t I H f o ∧ MA h B t I H f o ∧ bkI B ∧ tpI t ∧ imI I ∧ shI H
abbrev up8 (z : Nat) : Prop := 8 ≤ z
/-- the class answers as the Model does -/
def PRi (d : Nat) (h : zH) (k : Nat) (mx : Nat) (lx : List Value) (mm : Nat) (lm : List Value) : Prop := zW d mx h.1 0 lx [] h (fun r1 h1 => ∃ x : Int32, r1 = some (.int x) ∧ zFr up8 h h1 ∧ (∃ G, h1.2 139 = zO 10 G) ∧ zW d mm h1.1 0 lm [] h1 (fun r2 h2 => r2 = some (.int x) ∧ AB h2 (k + 1) ∧ zFr up8 h h2))
def PRl (d : Nat) (h : zH) (k : Nat) (mx : Nat) (lx : List Value) (mm : Nat) (lm : List Value) : Prop := zW d mx h.1 0 lx [] h (fun r1 h1 => ∃ x : Int64, r1 = some (.long x) ∧ zFr up8 h h1 ∧ (∃ G, h1.2 139 = zO 10 G) ∧ zW d mm h1.1 0 lm [] h1 (fun r2 h2 => r2 = some (.long x) ∧ AB h2 (k + 1) ∧ zFr up8 h h2))
