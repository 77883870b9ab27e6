/-! The law -/
theorem useI {d k mx mm : Nat} {lx lm : List Value} {h : zH} (p : PRi d h k mx lx mm lm) {WR : Int32 → zH → Prop} {LP FL : zH → Prop}
    (W : ∀ x h1, zFr up8 h h1 → (∃ G, h1.2 139 = zO 10 G) → zW d mm h1.1 0 lm [] h1 (fun r2 h2 => ∃ y, r2 = some (.int y) ∧ (if x = y then LP h2 else FL h2)) → WR x h1)
    (N : ∀ h2, AB h2 (k + 1) → zFr up8 h h2 → LP h2) : zW d mx h.1 0 lx [] h (fun r h8 => ∃ x9, r = some (.int x9) ∧ WR x9 h8) := by
  refine zWg_mono _ _ _ _ _ _ _ _ _ ?_ p
  rintro r1 h1 ⟨x, rfl, f1, o1, z⟩
  refine ⟨x, rfl, W x h1 f1 o1 (zWg_mono _ _ _ _ _ _ _ _ _ ?_ z)⟩
  rintro r2 h2 ⟨rfl, ab, fr⟩
  exact ⟨x, rfl, ifT rfl (N h2 ab fr)⟩
theorem useL {d k mx mm : Nat} {lx lm : List Value} {h : zH} (p : PRl d h k mx lx mm lm) {WR : Int64 → zH → Prop} {LP FL : zH → Prop}
    (W : ∀ x h1, zFr up8 h h1 → (∃ G, h1.2 139 = zO 10 G) → zW d mm h1.1 0 lm [] h1 (fun r2 h2 => ∃ y, r2 = some (.long y) ∧ (if lg_cmp x y = 0 then LP h2 else FL h2)) → WR x h1)
    (N : ∀ h2, AB h2 (k + 1) → zFr up8 h h2 → LP h2) : zW d mx h.1 0 lx [] h (fun r h8 => ∃ x9, r = some (.long x9) ∧ WR x9 h8) := by
  refine zWg_mono _ _ _ _ _ _ _ _ _ ?_ p
  rintro r1 h1 ⟨x, rfl, f1, o1, z⟩
  refine ⟨x, rfl, W x h1 f1 o1 (zWg_mono _ _ _ _ _ _ _ _ _ ?_ z)⟩
  rintro r2 h2 ⟨rfl, ab, fr⟩
  exact ⟨x, rfl, ifT (lc_eq.mpr rfl) (N h2 ab fr)⟩
theorem law_end {L i : Nat} (hL : L ≤ 3072) (hi : i ≤ 4000) : nI L - 6 < nI i ↔ L < i + 6 := by
  rw [Int32.lt_iff_toInt_lt, show (6 : Int32) = nI 6 from rfl, pk_sub_toInt (by omega) (by omega), nI_toInt (by omega)]
  omega
theorem law_loop {L : Nat} {xs : Nat → Int32} (hL : L ≤ 3072) {Q : zQ} (K : ∀ h, Q (some (.int 1)) h) : ∀ m c (h : zH), 512 ≤ c + m → c ≤ 512 → h.2 0 = zI 3 L xs → AB h (1 + c) → zW 12 m_Law_law (0, 0) 18 [.ref 0, .ref 8, .ref 139, .int (nI (6 * c))] [] h Q := by
  intro m
  induction m with
  | zero =>
    intro c h hc hc2 hs hA
    exact b_Law_law_18 ⟨L, xs, hs, ifT ((law_end hL (by omega)).mpr (by omega)) ⟨by decide, K h⟩⟩
  | succ m ih =>
    intro c h hc hc2 hs hA
    refine b_Law_law_18 ⟨L, xs, hs, ifB (fun _ => ⟨by decide, K h⟩) (fun ce => ?_)⟩
    have hle : 6 * c + 6 ≤ L := by have := mt (law_end hL (show 6 * c ≤ 4000 by omega)).mpr ce; omega
    have hk : 1 + c < 2 ^ 29 := by omega
    have z0 : zIn (nI (6 * c)) L := zIn_nI (by omega) (by omega)
    have z1 : zIn (nI (6 * c) + 1) L := by show zIn (nI (6 * c) + nI 1) L; rw [nI_add]; exact zIn_nI (by omega) (by omega)
    have z2 : zIn (nI (6 * c) + 2) L := by show zIn (nI (6 * c) + nI 2) L; rw [nI_add]; exact zIn_nI (by omega) (by omega)
    have z3 : zIn (nI (6 * c) + 3) L := by show zIn (nI (6 * c) + nI 3) L; rw [nI_add]; exact zIn_nI (by omega) (by omega)
    have z4 : zIn (nI (6 * c) + 4) L := by show zIn (nI (6 * c) + nI 4) L; rw [nI_add]; exact zIn_nI (by omega) (by omega)
    have z5 : zIn (nI (6 * c) + 5) L := by show zIn (nI (6 * c) + nI 5) L; rw [nI_add]; exact zIn_nI (by omega) (by omega)
    have e6 : nI (6 * c) + 6 = nI (6 * (c + 1)) := by show nI (6 * c) + nI 6 = _; rw [nI_add]; congr 1
    have ob : ∃ F, h.2 8 = zO 9 F := by
      obtain ⟨B, t, I, H, f, o, ⟨⟨F, hF, -⟩, -⟩, -⟩ := hA
      exact ⟨F, hF⟩
    have next : ∀ h2, AB h2 (1 + c + 1) → zFr up8 h h2 → zW 12 m_Law_law (0, 0) 18 [.ref 0, .ref 8, .ref 139, .int (nI (6 * c) + 6)] [] h2 Q := fun h2 ab fr => by
      rw [e6]
      exact ih (c + 1) h2 (by omega) (by omega) ((fr 0 (by decide)).trans hs) (by rw [show 1 + (c + 1) = 1 + c + 1 by omega]; exact ab)
    have hs1 : ∀ {h1 : zH}, zFr up8 h h1 → h1.2 0 = zI 3 L xs := fun fr => (fr 0 (by decide)).trans hs
    refine ⟨L, xs, hs, z0, ?_⟩
    refine ifB (fun _ => ⟨L, xs, hs, z1, ob, useI (P_feed (d := 2) hA _) (fun x h1 f1 o1 z => ⟨L, xs, hs1 f1, z1, o1, z⟩) next⟩) (fun _ => ?_)
    refine ifB (fun _ => ⟨L, xs, hs, z1, ob, useI (P_end (d := 2) hA _) (fun x h1 f1 o1 z => ⟨L, xs, hs1 f1, z1, o1, z⟩) next⟩) (fun _ => ?_)
    refine ifB (fun _ => ⟨ob, useI (P_text (d := 2) hA hk) (fun x h1 f1 o1 z => ⟨o1, z⟩) next⟩) (fun _ => ?_)
    refine ifB (fun _ => ⟨ob, useI (P_fault (d := 2) hA) (fun x h1 f1 o1 z => ⟨o1, z⟩) next⟩) (fun _ => ?_)
    refine ifB (fun _ => ⟨L, xs, hs, z1, ob, useI (P_rule (d := 2) hA hk _) (fun x h1 f1 o1 z => ⟨L, xs, hs1 f1, z1, o1, z⟩) next⟩) (fun _ => ?_)
    refine ifB (fun _ => ⟨L, xs, hs, z1, L, xs, hs, z2, ob, useI (P_stamp (d := 2) hA _ _) (fun x h1 f1 o1 z => ⟨L, xs, hs1 f1, z1, L, xs, hs1 f1, z2, o1, z⟩) next⟩) (fun _ => ?_)
    refine ifB (fun _ => ⟨L, xs, hs, z1, L, xs, hs, z2, ob, useI (P_clock (d := 2) hA hk _ _) (fun x h1 f1 o1 z => ⟨L, xs, hs1 f1, z1, L, xs, hs1 f1, z2, o1, z⟩) next⟩) (fun _ => ?_)
    refine ifB (fun _ => ⟨L, xs, hs, z1, L, xs, hs, z2, L, xs, hs, z3, ob, useI (P_line (d := 2) hA hk _ _ _) (fun x h1 f1 o1 z => ⟨L, xs, hs1 f1, z1, L, xs, hs1 f1, z2, L, xs, hs1 f1, z3, o1, z⟩) next⟩) (fun _ => ?_)
    refine ifB (fun _ => ⟨L, xs, hs, z1, L, xs, hs, z2, L, xs, hs, z3, ob, useL (P_sum (d := 2) hA hk _ _ _) (fun x h1 f1 o1 z => ⟨L, xs, hs1 f1, z1, L, xs, hs1 f1, z2, L, xs, hs1 f1, z3, o1, z⟩) next⟩) (fun _ => ?_)
    refine ifB (fun _ => ⟨L, xs, hs, z1, L, xs, hs, z2, L, xs, hs, z3, ob, useI (P_struck (d := 2) hA hk _ _ _) (fun x h1 f1 o1 z => ⟨L, xs, hs1 f1, z1, L, xs, hs1 f1, z2, L, xs, hs1 f1, z3, o1, z⟩) next⟩) (fun _ => ?_)
    refine ifB (fun _ => ⟨L, xs, hs, z1, L, xs, hs, z2, L, xs, hs, z3, ob, useL (P_far (d := 2) hA hk _ _ _) (fun x h1 f1 o1 z => ⟨L, xs, hs1 f1, z1, L, xs, hs1 f1, z2, L, xs, hs1 f1, z3, o1, z⟩) next⟩) (fun _ => ?_)
    refine ifB (fun _ => ⟨L, xs, hs, z1, L, xs, hs, z2, ob, useI (P_cost (d := 2) hA hk _ _) (fun x h1 f1 o1 z => ⟨L, xs, hs1 f1, z1, L, xs, hs1 f1, z2, o1, z⟩) next⟩) (fun _ => ?_)
    refine ifB (fun _ => ⟨L, xs, hs, z1, L, xs, hs, z2, L, xs, hs, z3, ob, useI (P_chain (d := 2) hA hk _ _ _) (fun x h1 f1 o1 z => ⟨L, xs, hs1 f1, z1, L, xs, hs1 f1, z2, L, xs, hs1 f1, z3, o1, z⟩) next⟩) (fun _ => ?_)
    refine ifB (fun _ => ⟨L, xs, hs, z1, L, xs, hs, z2, L, xs, hs, z3, L, xs, hs, z4, ob, useL (P_taken (d := 2) hA hk _ _ _) (fun x h1 f1 o1 z => ⟨L, xs, hs1 f1, z1, L, xs, hs1 f1, z2, L, xs, hs1 f1, z3, L, xs, hs1 f1, z4, o1, z⟩) next⟩) (fun _ => ?_)
    refine ifB (fun _ => ⟨ob, useI (P_ok (d := 2) hA) (fun x h1 f1 o1 z => ⟨o1, z⟩) next⟩) (fun _ => ?_)
    refine ifB (fun _ => ⟨L, xs, hs, z1, L, xs, hs, z2, L, xs, hs, z3, L, xs, hs, z4, ob, useL (P_there (d := 2) hA hk _ _ _) (fun x h1 f1 o1 z => ⟨L, xs, hs1 f1, z1, L, xs, hs1 f1, z2, L, xs, hs1 f1, z3, L, xs, hs1 f1, z4, o1, z⟩) next⟩) (fun _ => ?_)
    refine ifB (fun _ => ⟨L, xs, hs, z1, L, xs, hs, z2, L, xs, hs, z3, ob, useI (P_hear (d := 2) hA hk _ _ _) (fun x h1 f1 o1 z => ⟨L, xs, hs1 f1, z1, L, xs, hs1 f1, z2, L, xs, hs1 f1, z3, o1, z⟩) next⟩) (fun _ => ?_)
    refine ifB (fun _ => ⟨L, xs, hs, z1, L, xs, hs, z2, ob, useI (P_lose (d := 2) hA hk _ _) (fun x h1 f1 o1 z => ⟨L, xs, hs1 f1, z1, L, xs, hs1 f1, z2, o1, z⟩) next⟩) (fun _ => ?_)
    refine ifB (fun _ => ⟨L, xs, hs, z1, L, xs, hs, z2, ob, useI (P_shift (d := 2) hA hk _ _) (fun x h1 f1 o1 z => ⟨L, xs, hs1 f1, z1, L, xs, hs1 f1, z2, o1, z⟩) next⟩) (fun _ => ?_)
    refine ifB (fun _ => ⟨L, xs, hs, z1, L, xs, hs, z2, ob, useI (P_set (d := 2) hA hk _ _) (fun x h1 f1 o1 z => ⟨L, xs, hs1 f1, z1, L, xs, hs1 f1, z2, o1, z⟩) next⟩) (fun _ => ?_)
    refine ifB (fun _ => ⟨L, xs, hs, z1, L, xs, hs, z2, ob, useI (P_draw (d := 2) hA hk _ _) (fun x h1 f1 o1 z => ⟨L, xs, hs1 f1, z1, L, xs, hs1 f1, z2, o1, z⟩) next⟩) (fun _ => ?_)
    refine ifB (fun _ => ⟨L, xs, hs, z1, ob, useI (P_keep (d := 2) hA _) (fun x h1 f1 o1 z => ⟨L, xs, hs1 f1, z1, o1, z⟩) next⟩) (fun _ => ?_)
    refine ifB (fun _ => ⟨L, xs, hs, z1, ob, useI (P_back (d := 2) hA hk _) (fun x h1 f1 o1 z => ⟨L, xs, hs1 f1, z1, o1, z⟩) next⟩) (fun _ => ?_)
    refine ifB (fun _ => ⟨L, xs, hs, z1, L, xs, hs, z2, L, xs, hs, z3, ob, useI (P_sheet (d := 2) hA _ _ _) (fun x h1 f1 o1 z => ⟨L, xs, hs1 f1, z1, L, xs, hs1 f1, z2, L, xs, hs1 f1, z3, o1, z⟩) next⟩) (fun _ => ?_)
    refine ifB (fun _ => ⟨L, xs, hs, z1, L, xs, hs, z2, L, xs, hs, z3, ob, useI (P_lay (d := 2) hA _ _ _) (fun x h1 f1 o1 z => ⟨L, xs, hs1 f1, z1, L, xs, hs1 f1, z2, L, xs, hs1 f1, z3, o1, z⟩) next⟩) (fun _ => ?_)
    refine ifB (fun _ => ⟨L, xs, hs, z1, L, xs, hs, z2, L, xs, hs, z3, L, xs, hs, z4, L, xs, hs, z5, ob, useI (P_read (d := 2) hA hk _ _ _ _ _) (fun x h1 f1 o1 z => ⟨L, xs, hs1 f1, z1, L, xs, hs1 f1, z2, L, xs, hs1 f1, z3, L, xs, hs1 f1, z4, L, xs, hs1 f1, z5, o1, z⟩) next⟩) (fun _ => ?_)
    refine ifB (fun _ => ⟨L, xs, hs, z1, ob, useI (P_count (d := 2) hA _) (fun x h1 f1 o1 z => ⟨L, xs, hs1 f1, z1, o1, z⟩) next⟩) (fun _ => ?_)
    exact next h hA.up zFr.rf
theorem law_run {L : Nat} {xs : Nat → Int32} (hL : L ≤ 3072) {h : zH} {Q : zQ} (h0 : h.1 = (0, 0)) (hs : h.2 0 = zI 3 L xs) (K : ∀ h, Q (some (.int 1)) h) : zW 12 m_Law_law (0, 0) 0 [.ref 0, zD, zD, zD] [] h Q := by
  have c1 : h.1.1 = 0 := by rw [h0]
  have c2 : h.1.2 = 0 := by rw [h0]
  refine b_Law_law_0 ⟨⟨by omega, by omega⟩, ?_⟩
  rintro h1 rfl
  refine ⟨⟨by show h.1.1 + 1 + 130 ≤ _; omega, by show h.1.2 + 12 + 2548 ≤ _; omega⟩, mk_BL h0 (fun h3 c3 n3 hC3 f3 => ⟨rfl, ⟨by omega, by omega⟩, ?_⟩)⟩
  rintro h4 rfl
  refine ⟨⟨by show h3.1.1 + 1 + 16 ≤ _; omega, by show h3.1.2 + 39 + 1078 ≤ _; omega⟩, mk_Mo c3 (fun h6 hM6 f6 => ⟨rfl, ?_⟩)⟩
  rw [show 8 + h.1.1 = 8 by omega, show 8 + h3.1.1 = 139 by omega]
  refine law_loop hL K 512 0 h6 (by decide) (by decide) ((f6 0 (by decide)).trans ((f3 0 (by decide)).trans hs)) ?_
  refine ⟨bk0, (0, fun _ => 0), fun _ => (false, bk0), fun _ => (-1, 0, fun _ => 0), 0, 0, hC3.fr f6 (fun z hz => hz), hM6, ⟨⟨by decide, by decide⟩, ⟨by decide, by decide⟩, ⟨by decide, by decide⟩, fun _ _ => Or.inl rfl⟩, ⟨by decide, fun i hi => absurd hi (Nat.not_lt_zero _)⟩, fun j _ q => (by cases q), fun j _ => Or.inl rfl⟩
