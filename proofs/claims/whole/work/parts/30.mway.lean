/-! The Model: THE CHAIN -/
def mAr (h : zH) : Prop := (∃ p, h.2 145 = zI 1 16 p) ∧ (∃ o, h.2 146 = zI 0 16 o) ∧ (∃ f, h.2 147 = zI 0 49 f) ∧ (∃ f, h.2 148 = zI 0 7 f) ∧ (∃ f, h.2 149 = zI 0 7 f) ∧ ∃ f, h.2 150 = zI 0 7 f
def mGg (G G' : Nat → Value) : Prop := ∀ k, k < 14 ∨ k = 22 ∨ k = 23 ∨ (24 < k ∧ k ≠ 29) → G' k = G k
def mA150 : Nat → Prop := fun z => z = 139 ∨ (145 ≤ z ∧ z ≤ 150)
theorem mGg.R {G G' : Nat → Value} (g : mGg G G') (hR : mR G) : mR G' := mR_of hR (fun k hk => g k (by omega))
theorem cw_R {S : Nat → Int32} {l q : Int32} {N : Nat} (hS : StK S) (hq : 2 ≤ q) (hli : 0 ≤ l) (hli2 : l ≤ 99) (hN : N ≤ 7) : cwR (csN S l q) (wtW S l q N) N := fun r s hr hs => ⟨cs_bd hS hq hli hli2 (by omega) (by omega), by unfold wtW; rw [if_pos ⟨hr, hs⟩]; rfl⟩
section C
variable {d : Nat} {e : Nat × Nat} {h : zH} {Q : zQ} {G : Nat → Value} {l q : Int32} {S : Nat → Int32} {N a r s : Nat}
/-- the weights of the chains to a -/
def wD (S : Nat → Int32) (l q : Int32) (N a : Nat) : Nat → Nat := bfD (wtW S l q N) N a 6
theorem cM_findsChain (hG : h.2 139 = zO 10 G) (hR : mR G) (hm : msA h (nI N) l q S) (hA : mAr h) (hS : StK S) (hq : 2 ≤ q) (hli : 0 ≤ l) (hli2 : l ≤ 99) (hN : N ≤ 7) (hr : r < N) (ha : a < N)
    (K0 : wD S l q N a r = bI → ∀ h' G', h'.2 139 = zO 10 G' → mGg G G' → G' 29 = .int 0 → mAr h' → zFr mA150 h h' → Q none h')
    (K1 : wD S l q N a r < bI → ∀ h' G', h'.2 139 = zO 10 G' → mGg G G' → G' 29 = .int (nI (wD S l q N a r % 8 + 1)) → mAr h' → (∃ y, h'.2 150 = zI 0 7 y ∧ ∀ i, i ≤ wD S l q N a r % 8 → y i = nI (wkN (wtW S l q N) (wD S l q N a) N r i)) → zFr mA150 h h' → Q none h') : zW (d + 6) m_Mo_findsChain e 0 [.ref 139, .int (nI r), .int (nI a), zD, zD] [] h Q := by
  obtain ⟨A1, A2, A3, A4, A5, A6⟩ := hA
  have hcw := cw_R (S := S) (l := l) (q := q) hS hq hli hli2 hN
  have hw := wt_ok (S := S) (li := l) (le := q) hS hq hli hli2 hN
  refine b_Mo_findsChain_0 ⟨⟨G, hG⟩, cM_findsCosts hG hR hm A1 A2 A3 hS hq hli hli2 hN (fun h1 hI => ⟨rfl, ?_⟩)⟩
  obtain ⟨⟨G1, hG1, g1⟩, B1, B2, ⟨f, hf, hf2⟩, hfr⟩ := hI
  have hR1 := g1.R hR
  obtain ⟨st, hst, st0, -⟩ := hm.fr hfr (by decide)
  refine ⟨⟨G1, hG1⟩, cM_findsLeast hG1 hR1 ⟨st, hst, st0⟩ ⟨f, hf, fun r s hr hs => hf2 r s hr hs (Or.inl hr)⟩ (A4.imp fun _ q => by rw [hfr _ (by decide)]; exact q) (A5.imp fun _ q => by rw [hfr _ (by decide)]; exact q) hcw hw hN ha (fun h2 hc2 hf2' => ⟨rfl, ?_⟩)⟩
  have hG2 : h2.2 139 = zO 10 G1 := by rw [hf2' _ (by decide)]; exact hG1
  have hff : zFr mA150 h h2 := (hfr.sub (B := mA150) (fun z hz => by unfold mA150; omega)).trans (hf2'.sub (B := mA150) (fun z hz => by unfold mA150; omega))
  have C1 : ∃ p, h2.2 145 = zI 1 16 p := B1.imp fun _ q => by rw [hf2' _ (by decide)]; exact q
  have C2 : ∃ p, h2.2 146 = zI 0 16 p := B2.imp fun _ q => by rw [hf2' _ (by decide)]; exact q
  have C6 : ∃ p, h2.2 150 = zI 0 7 p := A6.imp fun _ q => by rw [hf2' _ (by decide), hfr _ (by decide)]; exact q
  obtain ⟨D1, ⟨g, hg, hg2⟩, D3⟩ := id hc2
  refine ⟨G1, hG2, ?_⟩
  rintro h6 rfl
  have h139 : zFr mA150 h2 (zP h2 139 (zO 10 (zU G1 29 (.int 0)))) := zFr.put (Or.inl rfl)
  have gg : mGg G (zU G1 29 (.int 0)) := fun k hk => by rw [zU_ne _ _ (by omega)]; exact g1 k (by omega)
  refine ⟨_, zP_same _ _ _, _, hR1.2.2.2.2.2.2.2.2.1, 7, g, (zP_ne _ _ (by decide)).trans hg, zIn_nI (by omega) (by decide), ?_⟩
  rw [nI_clamp (by omega), hg2 r (by omega)]
  have hp := hp_bf hw hN ha 6
  have hrb := hp.2.1 r
  by_cases c : bfD (wtW S l q N) N a 6 r = bI
  · refine ifT (by unfold leE; rw [if_pos c]) (K0 c _ _ (zP_same _ _ _) gg rfl ⟨?_, ?_, ?_, ?_, ?_, ?_⟩ (hff.trans h139))
    · exact C1.imp fun _ q => (zP_ne _ _ (by decide)).trans q
    · exact C2.imp fun _ q => (zP_ne _ _ (by decide)).trans q
    · exact D1.imp fun _ q => (zP_ne _ _ (by decide)).trans q.1
    · exact ⟨g, (zP_ne _ _ (by decide)).trans hg⟩
    · exact D3.imp fun _ q => (zP_ne _ _ (by decide)).trans q.1
    · exact C6.imp fun _ q => (zP_ne _ _ (by decide)).trans q
  · have hlt : bfD (wtW S l q N) N a 6 r < bI := by omega
    have hb := hp_bd hN hp hr hlt
    have er : leE (bfD (wtW S l q N) N a 6 r) = nI (bfD (wtW S l q N) N a 6 r / 8) := if_neg c
    rw [er]
    obtain ⟨y, hy⟩ := C6
    refine ifF (fun q => by rw [le_big] at q; have := (nI_eq (by omega) (by decide)).mp q; omega) ⟨_, zP_same _ _ _, _, hR1.2.2.2.2.2.2.2.2.2.2.1, 7, y, (zP_ne _ _ (by decide)).trans hy, zIn_nI (show 0 < 7 by decide) (by decide), ?_⟩
    rintro h15 rfl
    refine ⟨_, (zP_ne _ _ (by decide)).trans (zP_same _ _ _), ?_⟩
    rintro h17 rfl
    have hmid : zFr (fun z => z = 139 ∨ z = 150) h2 (zP (zP (zP h2 139 (zO 10 (zU G1 29 (.int 0)))) 150 (zI 0 7 (zU y 0 (nI r)))) 139 (zO 10 (zU (zU G1 29 (.int 0)) 29 (.int 1)))) := ((zFr.put (Or.inl rfl)).trans (zFr.put (Or.inr rfl))).trans (zFr.put (Or.inl rfl))
    refine cM_walk (h := h2) (G := G1) (c := csN S l q) hG2 hR1 hc2 hcw hw hN ha hr hlt (fun h' G' e1 e2 e3 e4 e5 => ?_) _ 0 _ (zU (zU G1 29 (.int 0)) 29 (.int 1)) (zU y 0 (nI r)) (Nat.zero_add _) (zP_same _ _ _) (fun k hk => by rw [zU_ne _ _ hk, zU_ne _ _ hk]) rfl ((zP_ne _ _ (by decide)).trans (zP_same _ _ _)) (fun i' hi' => ?_) hmid
    · have ef : zFr mA150 h2 h' := e5.sub (B := mA150) (fun z hz => by unfold mA150; omega)
      refine K1 hlt h' G' e1 (fun k hk => (e2 k (by omega)).trans (g1 k (by omega))) e3 ⟨?_, ?_, ?_, ?_, ?_, ?_⟩ e4 (hff.trans ef)
      · exact C1.imp fun _ q => by rw [e5 _ (by decide)]; exact q
      · exact C2.imp fun _ q => by rw [e5 _ (by decide)]; exact q
      · exact D1.imp fun _ q => by rw [e5 _ (by decide)]; exact q.1
      · exact ⟨g, by rw [e5 _ (by decide)]; exact hg⟩
      · exact D3.imp fun _ q => by rw [e5 _ (by decide)]; exact q.1
      · exact e4.imp fun _ q => q.1
    · rw [show i' = 0 by omega, zU_same]
      rfl
end C
