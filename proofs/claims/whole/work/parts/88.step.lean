theorem zv1 (v : Nat) (h : 1 ≤ v) : v - 1 + 1 = v := by omega
theorem zv8 (v : Nat) (h : v - 1 < 4) (h1 : 1 ≤ v) : v < 8 := by omega
section ZW
variable {l : Launch} {p : Program} {e : Env} {R : Room} {s : State} {m : MethodId} {args : Array Value} {below : List Frame} {meth : Method} {c : Code} {G : zGl} {r : zRec} {B eb : Nat × Nat} {Qm : State → Prop}
theorem zlocs_add {locs : List Loc} {o j : Nat} (ho : 8 ≤ o) (hl : ∀ q ∈ locs, zgn G ≤ q.base) : ∀ q ∈ locs ++ [⟨zRo G o, j⟩], zgn G ≤ q.base := by
  intro q hq
  rcases List.mem_append.mp hq with q1 | q1
  · exact hl q q1
  · rw [List.mem_singleton.mp q1]
    show zgn G ≤ zRo G o
    rw [zRo_new ho]; omega
theorem zRt_go {k : zK} {tc nx : Nat} {ls st : List Value} {v : Option Value} {h : zH} (h0 : zRt tc v (fun vs => k nx ls (vs ++ st) h)) : ∃ vs, k nx ls (vs ++ st) h ∧ (v.map (zTr G)).toList ++ st.map (zTr G) = (vs ++ st).map (zTr G) := by
  unfold zRt at h0
  split at h0
  · obtain ⟨x, h1, h2⟩ := h0; exact ⟨_, h2, by rw [h1]; rfl⟩
  · obtain ⟨x, h1, h2⟩ := h0; exact ⟨_, h2, by rw [h1]; rfl⟩
  · obtain ⟨x, h1, h2⟩ := h0; exact ⟨_, h2, by rw [h1]; rfl⟩
  · obtain ⟨h1, h2⟩ := h0; exact ⟨_, h2, by rw [h1]; rfl⟩
/-- what a program checks of a call -/
theorem zInvk_spec {idx z b tc kd : Nat} {tg : List Nat} (h : zInvk r B idx z b tc tg kd = true) : ∃ (O : String) (q : zRec), zOwn[zrO r]? = some O ∧ zMs[z]? = some q ∧ (Cond.methodLink O idx q.1 ∈ zGW ∨ (zrK q = 1 ∧ ∃ host, Cond.methodLinkNest O idx q.1 host ∈ lw_tbl)) ∧ zrK q = kd ∧ b = zrN q + (if kd = 2 then 0 else 1) ∧ zrF q + 1 ≤ zrF r ∧ 8 + (zrL q + 11) + zrW q ≤ zrW r ∧ (zT z).2.1 = (match (generalizing := false) tg with | [m, n] => (m, n) | _ => (0, 0)) ∧ (tg = [] ∨ ∃ m n, tg = [m, n]) := by
  unfold zInvk at h
  simp only [Bool.and_eq_true] at h
  obtain ⟨h1, h2⟩ := h
  obtain ⟨O, q, e1, e2, e3⟩ := zCpm_ok _ (List.elem_iff.mp h1)
  dsimp only at e1 e2 e3
  rw [e2] at h2
  dsimp only at h2
  simp only [Bool.and_eq_true, decide_eq_true_eq, Bool.or_eq_true, beq_iff_eq] at h2
  obtain ⟨⟨⟨⟨⟨⟨⟨k1, k2⟩, k3⟩, k4⟩, k5⟩, k6⟩, k7⟩, k8⟩ := h2
  refine ⟨O, q, e1, e2, e3, k1, k2, Nat.le_of_ble_eq_true k3, Nat.le_of_ble_eq_true k4, k5, ?_⟩
  rcases k6 with k6 | ⟨-, k6⟩
  · exact Or.inl k6
  · match tg, k6 with
    | [m, n], _ => exact Or.inr ⟨m, n, rfl⟩
set_option maxHeartbeats 4000000 in
theorem zStep (cx : zCx G p R s m args meth c r B) {t : zEnt} {pc : Nat} {k : zK} {call : Nat → List Value → zH → zQ → Prop} {Q : zQ} {ls st : List Value} {h : zH} (hc : zChk r B pc t = true)
    (hk : ∀ pc ls st h, k pc ls st h → zWm G l p e R s m args below meth c r B eb Qm pc ls st h) (hcall : ∀ z as h K, call z as h K → zMeet l G z as h K) (hret : zRtn G l p e R s m args below meth c r B eb Qm Q) (hstr : zStr G l p e R s m args below meth c r Qm)
    (hs : zSem t B eb k call Q ls st h) : zWm G l p e R s m args below meth c r B eb Qm pc ls st h := by
  refine zs_plain cx hc hk hs ?_
  obtain ⟨ins, nx, a, b, tc, w, kl, tg⟩ := t
  obtain ⟨hx, hb, hml, ⟨O, hO, hown⟩, hts, hini, hF, hW, hB1, hB2, hE, hG⟩ := id cx
  have hK := hE.1
  cases ins <;> try trivial
  all_goals dsimp only
  all_goals unfold zSem at hs
  all_goals dsimp only at hs
  all_goals unfold zChk at hc
  all_goals dsimp only at hc
  case ldc i =>
    simp only [Bool.and_eq_true] at hc
    obtain ⟨hd, hw⟩ := hc
    obtain ⟨hd2, rfl⟩ := zDc_spec hd
    split at hw
    · rename_i v
      obtain ⟨O2, hO2, hm⟩ := zCpk_ok _ (List.elem_iff.mp hw)
      have e : O2 = O := Option.some.inj (hO2.symm.trans hO)
      subst e
      intro H locs cells slots LS hR hl hL h1 h2 h3 h4
      exact lv_ldc hx hb hown (hts _ hm) hd2 (hk _ _ _ _ hs H locs cells slots LS hR hl hL h1 h2 h3 h4)
    · rename_i v
      simp only [Bool.and_eq_true, decide_eq_true_eq] at hw
      obtain ⟨⟨hw1, hw2⟩, hw3⟩ := hw
      have hw3 := Nat.le_of_ble_eq_true hw3
      obtain ⟨q, hq1, hq2⟩ : ∃ q, zSix[v - 1]? = some q ∧ q.1 = i := by
        rw [List.getElem?_map] at hw2
        cases hz : zSix[v - 1]? with
        | none => rw [hz] at hw2; cases hw2
        | some q => rw [hz] at hw2; exact ⟨q, rfl, Option.some.inj hw2⟩
      have hv := hE.2.2.2.2.1 _ _ hq1
      have e1 : (v : Nat) - 1 + 1 = v := zv1 v hw3
      rw [e1, hq2] at hv
      have hv4 : v < 8 := zv8 v (List.getElem?_eq_some_iff.mp hq1).1 hw3
      have hO6 : O = RX6 := by rw [hw1] at hO; exact (Option.some.inj hO).symm
      intro H locs cells slots LS hR hl hL h1 h2 h3 h4
      have kk := hk _ _ _ _ hs H locs cells slots LS hR hl hL h1 h2 h3 h4
      have e5 : zRo G v = zgo G v := if_pos hv4
      have kk2 : W p l e R s m args below meth c H locs cells slots Qm (F0 m (pc + 2) LS (.ref (zgo G v) :: st.map (zTr G))) := by
        rw [← e5]; exact kk
      exact va_ldcS hx hb (by rw [← hO6]; exact hown) hv hd2 kk2
    · cases hw
  case tableswitch d lo hi offs =>
    simp only [Bool.and_eq_true, decide_eq_true_eq] at hc
    obtain ⟨⟨⟨⟨⟨hd, hlo⟩, hhi⟩, hda⟩, htg⟩, hsm⟩ := hc
    have hsm : b + tg.length < 1000 := Nat.le_of_ble_eq_true hsm
    split at hs
    · rename_i x st
      intro H locs cells slots LS hR hl hL h1 h2 h3 h4
      have hof : ∀ n : Nat, n < 1000 → (Int32.ofNat n).toInt = (n : Int) := fun n hn => Int32.toInt_ofNat_of_lt (by omega)
      rcases zSw_spec tg b hs with ⟨j, t, e1, e2, e3⟩ | ⟨e1, e2⟩
      · have hj := (List.getElem?_eq_some_iff.mp e1).1
        have hxi : x.toInt = ((b + j : Nat) : Int) := by rw [e2]; exact hof _ (by omega)
        obtain ⟨off, o1, o2⟩ := zTg_spec _ _ htg j t e1
        refine lv_tableIn hx hb hd (off := off) (by rw [hxi, hlo]; omega) (by rw [hxi, hhi]; omega) ?_ o2 (hk _ _ _ _ e3 H locs cells slots LS hR hl hL h1 h2 h3 h4)
        rw [hxi, hlo]
        have e9 : (((b + j : Nat) : Int) - (b : Int)).toNat = j := by omega
        rw [e9, ← Array.getElem?_toList]
        exact o1
      · refine lv_tableOut hx hb hd ?_ hda (hk _ _ _ _ e2 H locs cells slots LS hR hl hL h1 h2 h3 h4)
        rw [hlo, hhi]
        rcases Int.lt_or_le x.toInt (b : Int) with q | q
        · exact Or.inl q
        · rcases Int.lt_or_le ((b : Int) + (tg.length : Int) - 1) x.toInt with q2 | q2
          · exact Or.inr q2
          · exfalso
            refine e1 (x.toInt.toNat - b) (by omega) (Int32.toInt_inj.mp ?_)
            rw [hof _ (by omega)]
            omega
    · exact hs.elim
  case getfield i =>
    simp only [Bool.and_eq_true] at hc
    obtain ⟨hd, hw⟩ := hc
    obtain ⟨hd2, rfl⟩ := zDc_spec hd
    obtain ⟨O2, C, T, N, hO2, hcl, hbN, hm⟩ := zCpf_ok _ (List.elem_iff.mp hw)
    dsimp only at hO2 hcl hbN hm
    have e : O2 = O := Option.some.inj (hO2.symm.trans hO)
    subst e
    split at hs
    · rename_i o st
      obtain ⟨F, hF1, hF2⟩ := hs
      intro H locs cells slots LS hR hl hL h1 h2 h3 h4
      have hA := hR.2.2.1 o
      rw [hF1] at hA
      have hob := hA _ hcl
      obtain ⟨hin, -, -, hT1, -⟩ := zCls_ok a _ hcl
      dsimp only at hin hT1
      have kk : W p l e R s m args below meth c H locs cells slots Qm (F0 m (pc + 3) LS (zTr G (F b) :: st.map (zTr G))) := by
        unfold zTy at hF2
        split at hF2
        · obtain ⟨x, g1, g2⟩ := hF2; rw [g1]; exact hk _ _ _ _ g2 H locs cells slots LS hR hl hL h1 h2 h3 h4
        · obtain ⟨x, g1, g2⟩ := hF2; rw [g1]; exact hk _ _ _ _ g2 H locs cells slots LS hR hl hL h1 h2 h3 h4
        · obtain ⟨x, g1, g2⟩ := hF2; rw [g1]; exact hk _ _ _ _ g2 H locs cells slots LS hR hl hL h1 h2 h3 h4
      obtain ⟨cell, q1, q2, q3, q4⟩ := hob
      obtain ⟨hS, hfc, kC, hkC, hkind⟩ := hK.1 a _ hcl
      obtain ⟨cf, kf, fi, f, hi, hsl⟩ := hS b hbN
      have hi' : s.fieldFound? C (T b).2.1 (T b).2.2.1 = some (cf, kf, fi, f) := by rw [← hT1 b hbN]; exact hi
      exact W.getf hx hb hown (hts _ hm) hi' (u_facts hfc hkC (u_lays hts hin hbN) hi).1 q1 (by rw [q3]; exact fun h => by cases h) (v := zTr G (F b)) (by rw [hsl]; exact q4 b hbN) rfl rfl hd2 kk
    · exact hs.elim
  case putfield i =>
    simp only [Bool.and_eq_true] at hc
    obtain ⟨⟨hd, hw⟩, hfk⟩ := hc
    obtain ⟨hd2, rfl⟩ := zDc_spec hd
    obtain ⟨O2, C, T, N, hO2, hcl, hbN, hm⟩ := zCpf_ok _ (List.elem_iff.mp hw)
    dsimp only at hO2 hcl hbN hm
    have e : O2 = O := Option.some.inj (hO2.symm.trans hO)
    subst e
    have hok := zCls_ok a _ hcl
    have hfk2 : ∃ ty, parseFieldDescriptor (T b).2.2.1 = some ty ∧ zKd ty = tc ∧ tc ≤ 3 ∧ ((T b).2.2.2 = false ∨ ((T b).2.2.2 = true ∧ meth.name = "<init>" ∧ C = O2)) := by
      unfold zFk at hfk
      rw [hcl] at hfk
      dsimp only at hfk
      cases hpd : parseFieldDescriptor (T b).2.2.1 with
      | none => rw [hpd] at hfk; cases hfk
      | some ty =>
        rw [hpd] at hfk
        simp only [Option.map_some, Bool.and_eq_true, decide_eq_true_eq] at hfk
        obtain ⟨⟨k1, k2⟩, k3⟩ := hfk
        refine ⟨ty, rfl, k1, Nat.le_of_ble_eq_true k2, ?_⟩
        cases hfin : (T b).2.2.2 with
        | false => exact Or.inl rfl
        | true =>
          rw [hfin] at k3
          simp only [cond_true, Bool.and_eq_true, decide_eq_true_eq] at k3
          refine Or.inr ⟨rfl, hini k3.1, ?_⟩
          have := hok.2.2.2.2
          dsimp only at this
          rw [k3.2] at this
          exact Option.some.inj (this.symm.trans hO)
    obtain ⟨ty, hty, hkd, htc, hfin⟩ := hfk2
    split at hs
    · rename_i v o st
      have key : ∀ v : Value, narrow ty (zTr G v) = zTr G v → fits ty (zTr G v) = true → (∃ F, h.2 o = zO a F ∧ ∀ g, g = zP h o (zO a (zU F b v)) → k (pc + 3) ls st g) → zWm G l p e R s m args below meth c r B eb Qm pc ls (v :: .ref o :: st) h := by
        rintro v hn hfit ⟨F, hF1, hF2⟩ H locs cells slots LS hR hl hL h1 h2 h3 h4
        have ha99 : a ≠ 99 := by
          have := (List.getElem?_eq_some_iff.mp hcl).1
          have e11 : vwCl.length = 11 := rfl
          omega
        have ho := zRel_new hR hF1 (zOld_O ha99)
        have hA := hR.2.2.1 o
        rw [hF1] at hA
        refine z_put hx hb hts hok hown hK hcl (hA _ hcl) b hbN (hts _ hm) hfin hty hn hfit hd2 (fun H1 i0 z1 o1 hob => ?_)
        refine hk _ _ _ _ (hF2 _ rfl) H1 _ cells slots LS (zRel_put hG hR ho z1 o1 (fun rr hrr => ?_)) (fun q hq => ?_) hL h1 h2 h3 h4
        · have hrr2 : rr = (C, T, N) := Option.some.inj (hrr.symm.trans hcl)
          subst hrr2
          refine hob.to (fun j _ => ?_)
          by_cases hj : j = b
          · subst hj; simp [updV, zU]
          · simp [updV, zU, hj]
        · rcases List.mem_append.mp hq with q1 | q1
          · exact hl q q1
          · rw [List.mem_singleton.mp q1]
            show zgn G ≤ zRo G o
            rw [zRo_new ho]; omega
      rcases (show tc = 0 ∨ tc = 1 ∨ tc = 2 ∨ tc = 3 by omega) with rfl | rfl | rfl | rfl
      · cases v <;> first | exact (show False from hs).elim | (cases ty <;> first | (exfalso; simp [zKd] at hkd; done) | exact key _ rfl rfl hs)
      · cases v <;> first | exact (show False from hs).elim | (cases ty <;> first | (exfalso; simp [zKd] at hkd; done) | exact key _ rfl rfl hs)
      · cases v <;> first | exact (show False from hs).elim | (cases ty <;> first | (exfalso; simp [zKd] at hkd; done) | exact key _ rfl rfl hs)
      · cases v <;> first | exact (show False from hs).elim | skip
        obtain ⟨hx01, hs⟩ := hs
        cases ty <;> first | (exfalso; simp [zKd] at hkd; done) | skip
        rcases hx01 with rfl | rfl
        · exact key _ rfl rfl hs
        · exact key _ rfl rfl hs
    · exact hs.elim
  case iaload =>
    simp only [Bool.and_eq_true, Bool.or_eq_true, beq_iff_eq] at hc
    obtain ⟨hd, ha⟩ := hc
    obtain ⟨hd2, rfl⟩ := zDc_spec hd
    split at hs
    · rename_i j o st
      obtain ⟨n, f, hF1, hin, hs⟩ := hs
      intro H locs cells slots LS hR hl hL h1 h2 h3 h4
      have hA := hR.2.2.1 o
      rw [hF1] at hA
      rcases ha with rfl | rfl
      · exact W.iald hx hb (hA.1 (by decide)) ((hK.2 0 _ rfl).1 n (fun j => .int (f j))) (fun q => by cases q) (zIn_not hin) (by rw [arrV_read _ _ hin.2]; rfl) rfl rfl hd2 (hk _ _ _ _ hs H locs cells slots LS hR hl hL h1 h2 h3 h4)
      · obtain ⟨e1, e2, e3⟩ := hA.2 rfl
        obtain ⟨scr, x1, x2, x3, x4, x5⟩ := hE.2.1
        have hcell : H[zRo G o]? = some scr := by rw [e1, hR.2.1 _ (hG.2 0 (by decide))]; exact x1
        rw [e2] at hin
        have kk := hk _ _ _ _ hs H locs cells slots LS hR hl hL h1 h2 h3 h4
        rw [e3] at kk
        exact W.iald hx hb hcell x2 x3 (by rw [x4]; rintro (q | q); exact hin.1 q; exact absurd hin.2 (Nat.not_lt.mpr q)) (x5 _ hin.2) rfl rfl hd2 kk
    · exact hs.elim
  case baload =>
    simp only [Bool.and_eq_true, Bool.or_eq_true, beq_iff_eq] at hc
    obtain ⟨hd, ha⟩ := hc
    obtain ⟨hd2, rfl⟩ := zDc_spec hd
    split at hs
    · rename_i j o st
      obtain ⟨n, f, hF1, hin, hs⟩ := hs
      intro H locs cells slots LS hR hl hL h1 h2 h3 h4
      have hA := hR.2.2.1 o
      rw [hF1] at hA
      rcases ha with rfl | rfl
      · exact W.zald hx hb (hA.1 (by decide)) ((hK.2 1 _ rfl).1 n (fun j => .int (f j))) (fun q => by cases q) (zIn_not hin) (by rw [arrV_read _ _ hin.2]; rfl) rfl rfl hd2 (hk _ _ _ _ hs H locs cells slots LS hR hl hL h1 h2 h3 h4)
      · exact W.bald hx hb (hA.1 (by decide)) ((hK.2 2 _ rfl).1 n (fun j => .int (f j))) (fun q => by cases q) (zIn_not hin) (by rw [arrV_read _ _ hin.2]; rfl) rfl rfl hd2 (hk _ _ _ _ hs H locs cells slots LS hR hl hL h1 h2 h3 h4)
    · exact hs.elim
  case laload =>
    obtain ⟨hd2, rfl⟩ := zDc_spec hc
    split at hs
    · rename_i j o st
      obtain ⟨n, f, hF1, hin, hs⟩ := hs
      intro H locs cells slots LS hR hl hL h1 h2 h3 h4
      have hA := hR.2.2.1 o
      rw [hF1] at hA
      exact W.lald hx hb hA ((hK.2 3 _ rfl).1 n (fun j => .long (f j))) (fun q => by cases q) (zIn_not hin) (by rw [arrV_read _ _ hin.2]; rfl) rfl rfl hd2 (hk _ _ _ _ hs H locs cells slots LS hR hl hL h1 h2 h3 h4)
    · exact hs.elim
  case aaload =>
    simp only [Bool.and_eq_true, Bool.or_eq_true, beq_iff_eq] at hc
    obtain ⟨hd, ha⟩ := hc
    obtain ⟨hd2, rfl⟩ := zDc_spec hd
    split at hs
    · rename_i j o st
      obtain ⟨n, f, hF1, hin, x, hfx, hs⟩ := hs
      intro H locs cells slots LS hR hl hL h1 h2 h3 h4
      have hA := hR.2.2.1 o
      rw [hF1] at hA
      have kk := hk _ _ _ _ hs H locs cells slots LS hR hl hL h1 h2 h3 h4
      have hv : (arrV (zgR G a) n (fun j => zRf G (f j))).slots[j.toNatClampNeg]? = some (.ref (zRo G x)) := by
        rw [arrV_read _ _ hin.2, hfx]; rfl
      rcases ha with (rfl | rfl) | rfl
      · exact W.aald (ty := .object RX0) hx hb hA ((hK.2 4 _ rfl).1 n (fun j => zRf G (f j))) rfl (fun q => by cases q) (zIn_not hin) hv rfl rfl hd2 kk
      · exact W.aald (ty := .object RX3) hx hb hA ((hK.2 5 _ rfl).1 n (fun j => zRf G (f j))) rfl (fun q => by cases q) (zIn_not hin) hv rfl rfl hd2 kk
      · exact W.aald (ty := .object RX4) hx hb hA ((hK.2 6 _ rfl).1 n (fun j => zRf G (f j))) rfl (fun q => by cases q) (zIn_not hin) hv rfl rfl hd2 kk
    · exact hs.elim
  case iastore =>
    obtain ⟨hd2, rfl⟩ := zDc_spec hc
    split at hs
    · rename_i x j o st
      obtain ⟨n, f, hF1, hin, hs⟩ := hs
      intro H locs cells slots LS hR hl hL h1 h2 h3 h4
      have ho := zRel_new hR hF1 (zOld_I (by decide))
      have hA := hR.2.2.1 o
      rw [hF1] at hA
      refine W.iast hx hb (hA.1 (by decide)) ((hK.2 0 _ rfl).1 n (fun j => .int (f j))) (fun q => by cases q) (zIn_not hin) rfl rfl hd2 fun H1 e1 z1 o1 => ?_
      rw [z_arr Value.int] at e1
      exact hk _ _ _ _ (hs _ rfl) H1 _ cells slots LS (zRel_put hG hR ho z1 o1 ⟨fun _ => e1, fun q => by cases q⟩) (zlocs_add ho hl) hL h1 h2 h3 h4
    · exact hs.elim
  case bastore =>
    obtain ⟨hd2, rfl⟩ := zDc_spec hc
    split at hs
    · rename_i x j o st
      split at hs
      · obtain ⟨hx01, n, f, hF1, hin, hs⟩ := hs
        intro H locs cells slots LS hR hl hL h1 h2 h3 h4
        have ho := zRel_new hR hF1 (zOld_I (by decide))
        have hA := hR.2.2.1 o
        rw [hF1] at hA
        refine W.zast hx hb (hA.1 (by decide)) ((hK.2 1 _ rfl).1 n (fun j => .int (f j))) (fun q => by cases q) (zIn_not hin) rfl rfl hd2 fun H1 e1 z1 o1 => ?_
        have en : narrow .boolean (.int x) = .int x := by rcases hx01 with rfl | rfl <;> rfl
        rw [en, z_arr Value.int] at e1
        exact hk _ _ _ _ (hs _ rfl) H1 _ cells slots LS (zRel_put hG hR ho z1 o1 ⟨fun _ => e1, fun q => by cases q⟩) (zlocs_add ho hl) hL h1 h2 h3 h4
      · obtain ⟨n, f, hF1, hin, hs⟩ := hs
        intro H locs cells slots LS hR hl hL h1 h2 h3 h4
        have ho := zRel_new hR hF1 (zOld_I (by decide))
        have hA := hR.2.2.1 o
        rw [hF1] at hA
        refine W.bast hx hb (hA.1 (by decide)) ((hK.2 2 _ rfl).1 n (fun j => .int (f j))) (fun q => by cases q) (zIn_not hin) rfl rfl hd2 fun H1 e1 z1 o1 => ?_
        have en : narrow .byte (.int x) = .int x.toInt8.toInt32 := rfl
        rw [en, z_arr Value.int] at e1
        exact hk _ _ _ _ (hs _ rfl) H1 _ cells slots LS (zRel_put hG hR ho z1 o1 ⟨fun _ => e1, fun q => by cases q⟩) (zlocs_add ho hl) hL h1 h2 h3 h4
      · exact hs.elim
    · exact hs.elim
  case lastore =>
    obtain ⟨hd2, rfl⟩ := zDc_spec hc
    split at hs
    · rename_i x j o st
      obtain ⟨n, f, hF1, hin, hs⟩ := hs
      intro H locs cells slots LS hR hl hL h1 h2 h3 h4
      have ho := zRel_new hR hF1 zOld_L
      have hA := hR.2.2.1 o
      rw [hF1] at hA
      refine W.last hx hb hA ((hK.2 3 _ rfl).1 n (fun j => .long (f j))) (fun q => by cases q) (zIn_not hin) rfl rfl hd2 fun H1 e1 z1 o1 => ?_
      rw [z_arr Value.long] at e1
      exact hk _ _ _ _ (hs _ rfl) H1 _ cells slots LS (zRel_put hG hR ho z1 o1 e1) (zlocs_add ho hl) hL h1 h2 h3 h4
    · exact hs.elim
  case aastore =>
    simp only [Bool.and_eq_true, Bool.or_eq_true, beq_iff_eq] at hc
    obtain ⟨hd, ha⟩ := hc
    obtain ⟨hd2, rfl⟩ := zDc_spec hd
    split at hs
    · rename_i x j o st
      obtain ⟨⟨F, hF⟩, n, f, hF1, hin, hs⟩ := hs
      intro H locs cells slots LS hR hl hL h1 h2 h3 h4
      have ho := zRel_new hR hF1 zOld_R
      have hA := hR.2.2.1 o
      rw [hF1] at hA
      have hX := hR.2.2.1 x
      rw [hF] at hX
      have key : ∀ (t0 : Nat) (q : vw_C), vwCl[a]? = some q → (zTys G)[t0]? = some (zgR G a, .object q.1) → W p l e R s m args below meth c H locs cells slots Qm (F0 m pc LS (.ref (zRo G x) :: .int j :: .ref (zRo G o) :: st.map (zTr G))) := by
        intro t0 q hq ht
        obtain ⟨cellV, g1, g2, g3, -⟩ := hX q hq
        have hcls := (hK.1 a q hq).2
        obtain ⟨kA, comp, k1, k2, k3, -⟩ := (hK.2 t0 _ ht).2
        have hcomp : comp = zgC G a := Option.some.inj (k3.symm.trans hcls.1)
        subst hcomp
        obtain ⟨kC, hkC, -⟩ := hcls.2
        refine W.aast hx hb hA (fun q h => by cases h) (fun h => by cases h) k1 k2 rfl hkC ⟨hin.1, by rw [arrV_size]; exact hin.2⟩ g1 (fun q h => by rw [g3] at h; cases h) (by rw [g2]; exact hkC) (by rw [g2]; exact va_assign hcls) rfl rfl hd2 fun H1 e1 z1 o1 => ?_
        have en : (.ref (zRo G x) : Value) = zRf G (some x) := rfl
        rw [en, z_arr (zRf G)] at e1
        exact hk _ _ _ _ (hs _ rfl) H1 _ cells slots LS (zRel_put hG hR ho z1 o1 e1) (zlocs_add ho hl) hL h1 h2 h3 h4
      rcases ha with (rfl | rfl) | rfl
      · exact key 4 _ rfl rfl
      · exact key 5 _ rfl rfl
      · exact key 6 _ rfl rfl
    · exact hs.elim
  case arraylength =>
    simp only [Bool.and_eq_true] at hc
    obtain ⟨hd, ha⟩ := hc
    obtain ⟨hd2, rfl⟩ := zDc_spec hd
    split at hs
    · rename_i o st
      split at hs
      · obtain ⟨n, f, hF1, hs⟩ := hs
        have ha : a ≤ 3 := Nat.le_of_ble_eq_true ha
        intro H locs cells slots LS hR hl hL h1 h2 h3 h4
        have hA := hR.2.2.1 o
        rw [hF1] at hA
        have kk := hk _ _ _ _ hs H locs cells slots LS hR hl hL h1 h2 h3 h4
        have hsz : ∀ cA : ClassId, (arrV cA n (fun j => .int (f j))).slots.size.toInt32 = Int32.ofNat n := fun cA => by rw [arrV_size]
        rcases (show a = 0 ∨ a = 1 ∨ a = 2 ∨ a = 3 by omega) with rfl | rfl | rfl | rfl
        · exact W.alen hx hb (hA.1 (by decide)) ((hK.2 0 _ rfl).1 n (fun j => .int (f j))) (hsz _) rfl rfl hd2 kk
        · exact W.alen hx hb (hA.1 (by decide)) ((hK.2 1 _ rfl).1 n (fun j => .int (f j))) (hsz _) rfl rfl hd2 kk
        · exact W.alen hx hb (hA.1 (by decide)) ((hK.2 2 _ rfl).1 n (fun j => .int (f j))) (hsz _) rfl rfl hd2 kk
        · obtain ⟨e1, e2, e3⟩ := hA.2 rfl
          obtain ⟨scr, x1, x2, x3, x4, x5⟩ := hE.2.1
          have hcell : H[zRo G o]? = some scr := by rw [e1, hR.2.1 _ (hG.2 0 (by decide))]; exact x1
          exact W.alen hx hb hcell x2 (by rw [x4, ← e2]) rfl rfl hd2 kk
      · obtain ⟨n, f, hF1, hs⟩ := hs
        intro H locs cells slots LS hR hl hL h1 h2 h3 h4
        have hA := hR.2.2.1 o
        rw [hF1] at hA
        exact W.alen hx hb hA ((hK.2 3 _ rfl).1 n (fun j => .long (f j))) (by rw [arrV_size]) rfl rfl hd2 (hk _ _ _ _ hs H locs cells slots LS hR hl hL h1 h2 h3 h4)
      · rename_i n0 n1
        obtain ⟨n, f, hF1, hs⟩ := hs
        have ha2 : (a = 0 ∨ a = 3) ∨ a = 4 := by
          split at ha
          · exact absurd rfl n0
          · exact absurd rfl n1
          · simp only [Bool.or_eq_true, beq_iff_eq] at ha; exact ha
        intro H locs cells slots LS hR hl hL h1 h2 h3 h4
        have hA := hR.2.2.1 o
        rw [hF1] at hA
        have kk := hk _ _ _ _ hs H locs cells slots LS hR hl hL h1 h2 h3 h4
        rcases ha2 with (rfl | rfl) | rfl
        · exact W.alen hx hb hA ((hK.2 4 _ rfl).1 n (fun j => zRf G (f j))) (by rw [arrV_size]) rfl rfl hd2 kk
        · exact W.alen hx hb hA ((hK.2 5 _ rfl).1 n (fun j => zRf G (f j))) (by rw [arrV_size]) rfl rfl hd2 kk
        · exact W.alen hx hb hA ((hK.2 6 _ rfl).1 n (fun j => zRf G (f j))) (by rw [arrV_size]) rfl rfl hd2 kk
    · exact hs.elim
  case ireturn =>
    simp only [Bool.and_eq_true, Bool.or_eq_true, decide_eq_true_eq, beq_iff_eq] at hc
    obtain ⟨⟨hd, hty⟩, hbud⟩ := hc
    obtain ⟨hd2, rfl⟩ := zDc_spec hd
    split at hs
    · rename_i x
      have key : Q (some (.int x)) h → (zrT r = some .int ∨ (zrT r = some .boolean ∧ (x = 0 ∨ x = 1))) → zWm G l p e R s m args below meth c r B eb Qm pc ls [.int x] h := by
        intro hq hok H locs cells slots LS hR hl hL h1 h2 h3 h4
        refine hret (some (.int x)) h pc .ireturn H locs cells slots LS hq hR hl h1 h2 h3 h4 (Or.inl ⟨rfl, x, rfl, hok⟩) hd2 ?_
        rcases hbud with hbud | hbud
        · refine Or.inl (Prod.ext ?_ ?_)
          · rw [hbud] at h3 ⊢; dsimp only at h3 ⊢; omega
          · rw [hbud] at h4 ⊢; dsimp only at h4 ⊢; omega
        · exact Or.inr hbud
      split at hty
      · rename_i htr
        have hty := beq_iff_eq.mp hty
        subst hty
        exact key hs (Or.inl htr)
      · rename_i htr
        have hty := beq_iff_eq.mp hty
        subst hty
        exact key hs.2 (Or.inr ⟨htr, hs.1⟩)
      · cases hty
    · exact hs.elim
  case lreturn =>
    simp only [Bool.and_eq_true, decide_eq_true_eq] at hc
    obtain ⟨⟨hd, hty⟩, hbud⟩ := hc
    obtain ⟨hd2, rfl⟩ := zDc_spec hd
    split at hs
    · rename_i x
      intro H locs cells slots LS hR hl hL h1 h2 h3 h4
      refine hret (some (.long x)) h pc .lreturn H locs cells slots LS hs hR hl h1 h2 h3 h4 (Or.inr (Or.inl ⟨rfl, hty, x, rfl⟩)) hd2 (Or.inl (Prod.ext ?_ ?_))
      · rw [hbud] at h3 ⊢; dsimp only at h3 ⊢; omega
      · rw [hbud] at h4 ⊢; dsimp only at h4 ⊢; omega
    · exact hs.elim
  case areturn =>
    simp only [Bool.and_eq_true, decide_eq_true_eq] at hc
    obtain ⟨⟨hd, hty⟩, hbud⟩ := hc
    obtain ⟨hd2, rfl⟩ := zDc_spec hd
    have hty2 : ∃ ty, zrT r = some ty ∧ zKd ty = 2 := by
      split at hty
      · rename_i ty htr; exact ⟨ty, htr, beq_iff_eq.mp hty⟩
      · cases hty
    split at hs
    · rename_i x
      intro H locs cells slots LS hR hl hL h1 h2 h3 h4
      refine hret (some (.ref x)) h pc .areturn H locs cells slots LS hs hR hl h1 h2 h3 h4 (Or.inr (Or.inr (Or.inl ⟨rfl, hty2, x, rfl⟩))) hd2 (Or.inl (Prod.ext ?_ ?_))
      · rw [hbud] at h3 ⊢; dsimp only at h3 ⊢; omega
      · rw [hbud] at h4 ⊢; dsimp only at h4 ⊢; omega
    · exact hs.elim
  case return_ =>
    simp only [Bool.and_eq_true, decide_eq_true_eq, Bool.or_eq_true, beq_iff_eq] at hc
    obtain ⟨⟨hd, hty⟩, hbud⟩ := hc
    obtain ⟨hd2, rfl⟩ := zDc_spec hd
    split at hs
    · split at hs
      · rcases hbud with hbud | hbud
        · cases hbud
        · intro H locs cells slots LS hR hl hL h1 h2 h3 h4
          refine hret none h pc .return_ H locs cells slots LS hs hR hl h1 h2 h3 h4 (Or.inr (Or.inr (Or.inr ⟨rfl, hty, rfl⟩))) hd2 (Or.inl (Prod.ext ?_ ?_))
          · rw [hbud] at h3 ⊢; dsimp only at h3 ⊢; omega
          · rw [hbud] at h4 ⊢; dsimp only at h4 ⊢; omega
      · intro H locs cells slots LS hR hl hL h1 h2 h3 h4
        exact hret none h pc .return_ H locs cells slots LS hs.2 hR hl h1 h2 h3 h4 (Or.inr (Or.inr (Or.inr ⟨rfl, hty, rfl⟩))) hd2 (Or.inl hs.1)
    · exact hs.elim
  case new i =>
    simp only [Bool.and_eq_true, decide_eq_true_eq] at hc
    obtain ⟨⟨⟨hd, hw⟩, htg⟩, hlen⟩ := hc
    obtain ⟨hd2, rfl⟩ := zDc_spec hd
    obtain ⟨O2, C, T, N, hO2, hcl, hm1, hm2, hm3⟩ := zCpn_ok _ (List.elem_iff.mp hw)
    dsimp only at hO2 hcl hm1 hm2 hm3
    have e0 : O2 = O := Option.some.inj (hO2.symm.trans hO)
    subst e0
    obtain ⟨⟨hb1, hb2⟩, hs⟩ := hs
    have hKn := hK.1 a _ hcl
    obtain ⟨hin, ⟨ty, hty⟩, -⟩ := zCls_ok a _ hcl
    dsimp only at hin hty
    obtain ⟨hbN, hdf⟩ := zDf_ok a _ tg hcl htg
    dsimp only at hbN hdf
    have hbN2 : b = N := by omega
    subst hbN2
    intro H locs cells slots LS hR hl hL h1 h2 h3 h4
    refine W.newcK hx hb hown (hts _ hm1) (hts _ hm2) (hts _ hm3) rfl hd2 (by omega) (by omega) hKn.2.1 rfl fun H1 kC hkC e1 z1 o1 => ?_
    have e8 : zRo G (8 + h.1.1) = H.size := by rw [zRo_new (by omega), hR.1]; omega
    have kk := hk _ _ _ _ (hs _ rfl) H1 locs (cells + 1) (slots + b) LS (zRel_make hG hR z1 o1 (fun rr hrr => by
      have hrr2 : rr = (C, T, b) := Option.some.inj (hrr.symm.trans hcl)
      subst hrr2
      refine (u_born ty hts hin hKn hkC e1 hty).to (fun j hj => ?_)
      have h9 := hdf j hj
      rw [hty j hj] at h9
      have h10 : defaultValue (ty j) = zDf tg j := Option.some.inj h9
      rw [h10]
      unfold zDf
      split <;> rfl)) hl hL (by show h.1.1 + 1 = _; omega) (by show h.1.2 + b = _; omega) (by omega) (by omega)
    have e9 : ((.ref (8 + h.1.1) :: st : List Value).map (zTr G)) = .ref H.size :: st.map (zTr G) := by
      show Value.ref (zRo G (8 + h.1.1)) :: _ = _
      rw [e8]
    rw [e9] at kk
    exact kk
  case newarray ty =>
    simp only [Bool.and_eq_true] at hc
    obtain ⟨hd, ha⟩ := hc
    obtain ⟨hd2, rfl⟩ := zDc_spec hd
    split at hs
    · rename_i n st
      obtain ⟨⟨hn0, hn1, hb1, hb2⟩, hs⟩ := hs
      intro H locs cells slots LS hR hl hL h1 h2 h3 h4
      have e8 : zRo G (8 + h.1.1) = H.size := by rw [zRo_new (by omega), hR.1]; omega
      have e9 : ((.ref (8 + h.1.1) :: st : List Value).map (zTr G)) = .ref H.size :: st.map (zTr G) := by
        show Value.ref (zRo G (8 + h.1.1)) :: _ = _
        rw [e8]
      have key : ∀ (t0 : Nat) (cA0 : ClassId) (cell : zCell), (zTys G)[t0]? = some (cA0, newarray.typeOf ty) → s.vm.findClass ("[" ++ (newarray.typeOf ty).toString) = some cA0 → (Cond.arrayClass (newarray.typeOf ty)).before args s = true → componentBytes (newarray.typeOf ty) ≤ 8 → (∀ H1 : Heap, H1[H.size]? = some (arrV cA0 n.toNatClampNeg (fun _ => defaultValue (newarray.typeOf ty))) → zAt G H.size cell H1) →
          k (pc + 2) ls (.ref (8 + h.1.1) :: st) (zNew h n.toNatClampNeg cell) → W p l e R s m args below meth c H locs cells slots Qm (F0 m pc LS (.int n :: st.map (zTr G))) := by
        intro t0 cA0 cell ht hfc harr hcb hat hs
        refine va_newaK hx hb harr rfl hd2 rfl hn0 rfl (by have := Nat.mul_le_mul hn1 hcb; omega) (by omega) (by omega) rfl fun H1 cA e1 z1 o1 hAr hNm => ?_
        have ec : cA = cA0 := Option.some.inj (hNm.symm.trans hfc)
        subst ec
        have kk := hk _ _ _ _ hs H1 locs (cells + 1) (slots + n.toNatClampNeg) LS (zRel_make hG hR z1 o1 (hat H1 e1)) hl hL (by show h.1.1 + 1 = _; omega) (by show h.1.2 + n.toNatClampNeg = _; omega) (by omega) (by omega)
        rw [e9] at kk
        exact kk
      cases ty <;> dsimp only at ha <;> first
        | (cases ha; done)
        | skip
      · simp only [Bool.and_eq_true, beq_iff_eq] at ha
        obtain ⟨rfl, rfl⟩ := ha
        exact key 1 _ (zI 1 n.toNatClampNeg (fun _ => 0)) rfl (hK.2 1 _ rfl).2 (hts _ zArr_Z) (by decide) (fun H1 e1 => ⟨fun _ => e1, fun q => by cases q⟩) (hs _ rfl)
      · simp only [Bool.and_eq_true, beq_iff_eq] at ha
        obtain ⟨rfl, rfl⟩ := ha
        exact key 2 _ (zI 2 n.toNatClampNeg (fun _ => 0)) rfl (hK.2 2 _ rfl).2 (hts _ zArr_B) (by decide) (fun H1 e1 => ⟨fun _ => e1, fun q => by cases q⟩) (hs _ rfl)
      · simp only [Bool.and_eq_true, beq_iff_eq] at ha
        obtain ⟨rfl, rfl⟩ := ha
        exact key 0 _ (zI 0 n.toNatClampNeg (fun _ => 0)) rfl (hK.2 0 _ rfl).2 (hts _ zArr_I) (by decide) (fun H1 e1 => ⟨fun _ => e1, fun q => by cases q⟩) (hs _ rfl)
      · simp only [beq_iff_eq] at ha
        subst ha
        exact key 3 _ (zL n.toNatClampNeg (fun _ => 0)) rfl (hK.2 3 _ rfl).2 (hts _ zArr_J) (by decide) (fun H1 e1 => e1) (hs _ rfl)
    · exact hs.elim
  case anewarray i =>
    simp only [Bool.and_eq_true, Bool.or_eq_true, beq_iff_eq] at hc
    obtain ⟨⟨hd, hw⟩, ha⟩ := hc
    obtain ⟨hd2, rfl⟩ := zDc_spec hd
    obtain ⟨O2, C, T, N, hO2, hcl, hm1, hm2⟩ := zCpa_ok _ (List.elem_iff.mp hw)
    dsimp only at hO2 hcl hm1 hm2
    have e0 : O2 = O := Option.some.inj (hO2.symm.trans hO)
    subst e0
    split at hs
    · rename_i n st
      obtain ⟨⟨hn0, hn1, hb1, hb2⟩, hs⟩ := hs
      intro H locs cells slots LS hR hl hL h1 h2 h3 h4
      have e8 : zRo G (8 + h.1.1) = H.size := by rw [zRo_new (by omega), hR.1]; omega
      have e9 : ((.ref (8 + h.1.1) :: st : List Value).map (zTr G)) = .ref H.size :: st.map (zTr G) := by
        show Value.ref (zRo G (8 + h.1.1)) :: _ = _
        rw [e8]
      have hcl2 : ∃ t0 : Nat, (zTys G)[t0]? = some (zgR G a, FieldType.object C) := by
        rcases ha with (rfl | rfl) | rfl
        · cases hcl; exact ⟨4, rfl⟩
        · cases hcl; exact ⟨5, rfl⟩
        · cases hcl; exact ⟨6, rfl⟩
      obtain ⟨t0, ht0⟩ := hcl2
      obtain ⟨kA0, comp0, -, -, -, k4⟩ := (hK.2 t0 _ ht0).2
      refine W.anew hx hb hown (hts _ hm1) (va_AO.use (hE.2.2.2.1 C hm2)) rfl hd2 rfl hn0 (by omega) (by omega) (by omega) fun cA kA comp f1 f2 f3 f4 => ?_
      have ec : cA = zgR G a := Option.some.inj (f1.symm.trans k4)
      subst ec
      generalize hH1 : H.push ({ cls := zgR G a, slots := Array.replicate n.toNatClampNeg .null, vm := .none } : Cell) = H1
      have z1 : H1.size = H.size + 1 := by rw [← hH1, Array.size_push]
      have e1 : H1[H.size]? = some (arrV (zgR G a) n.toNatClampNeg (fun _ => .null)) := by rw [← hH1, Array.getElem?_push_size, ← arrV_new]
      have o1 : ∀ q : Nat, q < H.size → H1[q]? = H[q]? := fun q hq => by rw [← hH1, Array.getElem?_push, if_neg (Nat.ne_of_lt hq)]
      have kk := hk _ _ _ _ (hs _ rfl) H1 locs (cells + 1) (slots + n.toNatClampNeg) LS (zRel_make hG hR z1 o1 e1) hl hL (by show h.1.1 + 1 = _; omega) (by show h.1.2 + n.toNatClampNeg = _; omega) (by omega) (by omega)
      rw [e9] at kk
      exact kk
    · exact hs.elim
  case invokestatic i =>
    simp only [Bool.and_eq_true] at hc
    obtain ⟨hd, hw⟩ := hc
    obtain ⟨hd2, rfl⟩ := zDc_spec hd
    split at hs
    · dsimp only at hw
      obtain ⟨O2, q, hO2, hq, hlink, hkd, hbn, hfr, hlo, hbud, htg⟩ := zInvk_spec hw
      have e0 : O2 = O := Option.some.inj (hO2.symm.trans hO)
      subst e0
      obtain ⟨m1, m2, m3, m4, m5, m6, m7⟩ := zMs_ok q (List.mem_of_getElem? hq)
      have hbud0 : (zT a).2.1 = (0, 0) := by
        rcases htg with rfl | ⟨m', n', rfl⟩
        · exact hbud
        · exfalso
          unfold zInvk at hw
          rw [hq] at hw
          simp at hw
      rw [if_pos rfl] at hbn
      obtain ⟨xs, rest, e1, e2, hs⟩ := zTk_spec _ _ _ hs
      obtain ⟨hlen, hs⟩ := zBif hs
      have hlen := Nat.le_of_ble_eq_true hlen
      rw [List.append_nil] at hs
      have hM := hcall _ _ _ _ hs q hq
      rw [hbud0] at hM
      intro H locs cells slots LS hR hl hL h1 h2 h3 h4
      rcases hlink with hlink | ⟨hk1, -⟩
      · refine zAfter (Bz := (0, 0)) (h := h) (va_runS (As := xs.reverse.map (zTr G)) (rest := rest.map (zTr G)) ⟨hx, hb, hml, hown, hts⟩ hM ⟨callB_of (zrN q) hts (fun w hw2 => by
          rcases List.mem_cons.mp hw2 with e | e
          · rw [e]; exact zGood m1
          · exact zGood e) rfl (by unfold zRm; rw [hbud0]) (by unfold zRm; rw [hbud0]) (hts _ m2) (hts _ hlink) m3 ⟨Nat.le_trans hfr hF, Nat.le_trans hlo hW⟩, hts _ (m7 hkd)⟩ ⟨zBlind, fun U hU hWm => ⟨rfl, by rw [hU]; exact hR, zEv_warm hWm hE⟩⟩ rfl (by rw [List.length_map, List.length_reverse, e2, hbn, Nat.add_zero]) hL.2.1 (by rw [e1, List.map_append, List.map_reverse, List.reverse_reverse]) (lv_room (zCatsum rest hlen)) hd2 ⟨by show cells + 0 ≤ _; omega, by show slots + 0 ≤ _; omega⟩) hl fun v h' H1 locs1 hv hR1 hbb hl1 => ?_
        obtain ⟨vs, hv1, hv2⟩ := zRt_go (G := G) hv
        rw [hv2]
        exact hk _ _ _ _ hv1 H1 locs1 _ _ LS hR1 hl1 hL (by rw [hbb]; show h.1.1 + 0 = _; omega) (by rw [hbb]; show h.1.2 + 0 = _; omega) (by show cells + 0 ≤ _; omega) (by show slots + 0 ≤ _; omega)
      · exact absurd (hkd.symm.trans hk1) (by decide)
    · rename_i _ hne0
      have hw2 : (zrO r == 0 && i == zCopyIx && Nat.ble 1 (zrF r) && Nat.ble 48 (zrW r)) = true := by
        cases w <;> first | exact absurd rfl hne0 | exact hw
      simp only [Bool.and_eq_true, beq_iff_eq] at hw2
      obtain ⟨⟨⟨hw3, hw4⟩, hw5⟩, hw6⟩ := hw2
      have hw5 := Nat.le_of_ble_eq_true hw5
      have hw6 := Nat.le_of_ble_eq_true hw6
      subst hw4
      have hO0 : O = RX0 := by rw [hw3] at hO; exact (Option.some.inj hO).symm
      subst hO0
      split at hs
      · rename_i n dp q0 sp o
        obtain ⟨hne, n1, f, n2, f2, hF1, hF2, ⟨hn0, hsp, hdp, hr1, hr2⟩, hs⟩ := hs
        intro H locs cells slots LS hR hl hL h1 h2 h3 h4
        have ho := zRel_new hR hF2 (zOld_I (by decide))
        have hA := hR.2.2.1 o
        rw [hF1] at hA
        have hA2 := hR.2.2.1 q0
        rw [hF2] at hA2
        refine z_copy hx hb (hml.trans hL.2.1.symm) hown (hts _ zCopy_ok.1) (hts _ zCopy_ok.2.1) (hts _ zCopy_ok.2.2.1) (hts _ zCopy_ok.2.2.2) (hK.2 0 _ rfl).1 (hA.1 (by decide)) (hA2.1 (by decide)) hsp hdp hn0 hr1 hr2 (Nat.le_trans hw5 hF) (Nat.le_trans hw6 hW) hd2 fun H1 L hL1 e1 z1 o1 => ?_
        exact hk _ _ _ _ (hs _ rfl) H1 _ cells slots LS (zRel_put hG hR ho z1 o1 ⟨fun _ => e1, fun q => by cases q⟩) (fun q hq => by
          rcases List.mem_append.mp hq with q1 | q1
          · exact hl q q1
          · rw [hL1 q q1]
            show zgn G ≤ zRo G q0
            rw [zRo_new ho]; omega) hL h1 h2 h3 h4
      · exact hs.elim
  case invokespecial i =>
    simp only [Bool.and_eq_true] at hc
    obtain ⟨hd, hw⟩ := hc
    obtain ⟨hd2, rfl⟩ := zDc_spec hd
    split at hs
    · dsimp only at hw
      obtain ⟨O2, q, hO2, hq, hlink, hkd, hbn, hfr, hlo, hbud, htg⟩ := zInvk_spec hw
      have e0 : O2 = O := Option.some.inj (hO2.symm.trans hO)
      subst e0
      obtain ⟨m1, m2, m3, m4, m5, m6, m7⟩ := zMs_ok q (List.mem_of_getElem? hq)
      obtain ⟨m6a, m6b, m6c⟩ := m6 hkd
      have m6c : zrT q = none := m6c
      rw [if_neg (by decide)] at hbn
      have hs2 : (h.1.1 + (zT a).2.1.1 ≤ eb.1 + B.1 ∧ h.1.2 + (zT a).2.1.2 ≤ eb.2 + B.2 ∨ (zT a).2.1 = (0, 0)) ∧ zTk b [] st (fun as st => (match as with | .ref _ :: _ => (bif Nat.ble st.length 4 then call a as h (fun r h => zRt tc r (fun vs => k (pc + 3) ls (vs ++ st) h)) else False) | _ => False)) := by
        rcases htg with rfl | ⟨m', n', rfl⟩
        · exact ⟨Or.inr hbud, hs⟩
        · exact ⟨Or.inl (by rw [hbud]; exact hs.1), hs.2⟩
      obtain ⟨hcap, hs⟩ := hs2
      obtain ⟨xs, rest, e1, e2, hs⟩ := zTk_spec _ _ _ hs
      rw [List.append_nil] at hs
      split at hs
      · rename_i o as' hxs
        obtain ⟨hlen, hs⟩ := zBif hs
        have hlen := Nat.le_of_ble_eq_true hlen
        rw [hxs] at hs
        have hM := hcall _ _ _ _ hs q hq
        have hlen2 : as'.length = zrN q := by
          have : xs.reverse.length = xs.length := List.length_reverse
          rw [hxs, List.length_cons] at this
          omega
        have hst : st.map (zTr G) = (as'.map (zTr G)).reverse ++ .ref (zRo G o) :: rest.map (zTr G) := by
          have hx2 : xs = as'.reverse ++ [.ref o] := by rw [← List.reverse_reverse xs, hxs, List.reverse_cons]
          rw [e1, hx2, List.map_append, List.map_append, List.map_reverse, List.append_assoc]
          rfl
        intro H locs cells slots LS hR hl hL h1 h2 h3 h4
        have hcap1 : cells + (zT a).2.1.1 ≤ B.1 := by
          rcases hcap with hcap | hcap
          · omega
          · rw [hcap]; exact h3
        have hcap2 : slots + (zT a).2.1.2 ≤ B.2 := by
          rcases hcap with hcap | hcap
          · omega
          · rw [hcap]; exact h4
        have hpre : PreS s H (va_Pc ((.ref o :: as' : List Value).map (zTr G)) (fun U => zRel G h U.heap ∧ zEv G U)) (.ref (zRo G o) :: as'.map (zTr G)) := ⟨zBlind, fun U hU hWm => ⟨rfl, by rw [hU]; exact hR, zEv_warm hWm hE⟩⟩
        have hgood : GoodIn zGW (zWs q) := fun w hw2 => by
          rcases List.mem_cons.mp hw2 with e | e
          · rw [e]; exact zGood m1
          · exact zGood e
        have hws : zWs q = Cond.code q.1 (zrB q) (zrL q) none :: zGW := by unfold zWs; rw [m6c]
        rw [hst]
        have fin : ∀ v h' H1 locs1, zRt tc v (fun vs => k (pc + 3) ls (vs ++ rest) h') → zRel G h' H1 → h'.1 = (h.1.1 + (zT a).2.1.1, h.1.2 + (zT a).2.1.2) → (∀ q ∈ locs1, zgn G ≤ q.base) → W p l e R s m args below meth c H1 locs1 (cells + (zT a).2.1.1) (slots + (zT a).2.1.2) Qm (F0 m (pc + 3) LS ((v.map (zTr G)).toList ++ rest.map (zTr G))) := by
          intro v h' H1 locs1 hv hR1 hbb hl1
          obtain ⟨vs, hv1, hv2⟩ := zRt_go (G := G) hv
          rw [hv2]
          exact hk _ _ _ _ hv1 H1 locs1 _ _ LS hR1 hl1 hL (by rw [hbb]; show h.1.1 + _ = _; omega) (by rw [hbb]; show h.1.2 + _ = _; omega) hcap1 hcap2
        rcases hlink with hlink | ⟨-, host, hlink⟩
        · exact zAfter (Bz := (zT a).2.1) (h := h) (va_runI (As := as'.map (zTr G)) (rest := rest.map (zTr G)) ⟨hx, hb, hml, hown, hts⟩ hM ⟨callB_of (zrN q) hts hgood hws rfl rfl (hts _ m2) (hts _ hlink) m3 ⟨Nat.le_trans hfr hF, Nat.le_trans hlo hW⟩, m6b, hts _ m6a⟩ hpre rfl (by rw [List.length_map, hlen2]) hL.2.1 rfl (lv_room (zCatsum rest hlen)) hd2 ⟨Nat.le_trans hcap1 hB1, Nat.le_trans hcap2 hB2⟩) hl fin
        · exact zAfter (Bz := (zT a).2.1) (h := h) (va_runIN (As := as'.map (zTr G)) (rest := rest.map (zTr G)) ⟨hx, hb, hml, hown, hts⟩ hM ⟨va_cnB (zrN q) hts hgood hws rfl rfl (hE.2.2.1 _ _ _ _ hlink) (hts _ m2) m3 ⟨Nat.le_trans hfr hF, Nat.le_trans hlo hW⟩, m6b, hts _ m6a⟩ hpre rfl (by rw [List.length_map, hlen2]) hL.2.1 rfl (lv_room (zCatsum rest hlen)) hd2 ⟨Nat.le_trans hcap1 hB1, Nat.le_trans hcap2 hB2⟩) hl fin
      · exact hs.elim
    · rename_i _ hne0
      have hw2 : (zCpo.contains (zrO r, i) && Nat.ble 1 (zrF r) && Nat.ble 20 (zrW r)) = true := by
        cases w <;> first | exact absurd rfl hne0 | exact hw
      simp only [Bool.and_eq_true] at hw2
      obtain ⟨⟨hw3, hw4⟩, hw5⟩ := hw2
      have hw4 := Nat.le_of_ble_eq_true hw4
      have hw5 := Nat.le_of_ble_eq_true hw5
      obtain ⟨O2, hO2, hm⟩ := zCpo_ok _ (List.elem_iff.mp hw3)
      have e0 : O2 = O := Option.some.inj (hO2.symm.trans hO)
      subst e0
      split at hs
      · rename_i o st
        obtain ⟨hlen, hs⟩ := zBif hs
        have hlen := Nat.le_of_ble_eq_true hlen
        intro H locs cells slots LS hR hl hL h1 h2 h3 h4
        have hcs := zCatsum (G := G) st hlen
        exact W.objInit hx hb hown (hts _ hm) (hts _ zObj_ok.1) (hts _ zObj_ok.2) rfl (by rw [hml]; exact hL.2.1) rfl hd2 (Nat.le_trans hw4 hF) (by have h20 : 20 ≤ R.locals := Nat.le_trans hw5 hW; show 2 * 0 + ((st.map (zTr G)).map fun v => v.category).sum + 12 ≤ R.locals; omega) (hk _ _ _ _ hs H locs cells slots LS hR hl hL h1 h2 h3 h4)
      · exact hs.elim
  case invokevirtual i =>
    simp only [Bool.and_eq_true] at hc
    obtain ⟨hd, hw⟩ := hc
    obtain ⟨hd2, rfl⟩ := zDc_spec hd
    split at hs
    · rename_i ci
      simp only [Bool.and_eq_true, decide_eq_true_eq] at hw
      obtain ⟨⟨hw, hcls⟩, hci⟩ := hw
      obtain ⟨O2, q, hO2, hq, hlink, hkd, hbn, hfr, hlo, hbud, htg⟩ := zInvk_spec hw
      have e0 : O2 = O := Option.some.inj (hO2.symm.trans hO)
      subst e0
      obtain ⟨m1, m2, m3, m4, m5, m6, m7⟩ := zMs_ok q (List.mem_of_getElem? hq)
      obtain ⟨m5a, m5b⟩ := m5 hkd
      have hbud0 : (zT a).2.1 = (0, 0) := by
        rcases htg with rfl | ⟨m', n', rfl⟩
        · exact hbud
        · exfalso
          unfold zInvk at hw
          rw [hq] at hw
          simp at hw
      rw [if_neg (by decide)] at hbn
      obtain ⟨xs, rest, e1, e2, hs⟩ := zTk_spec _ _ _ hs
      rw [List.append_nil] at hs
      split at hs
      · rename_i o as' hxs
        obtain ⟨⟨F, hFo⟩, hs⟩ := hs
        obtain ⟨hlen, hs⟩ := zBif hs
        have hlen := Nat.le_of_ble_eq_true hlen
        rw [hxs] at hs
        have hM := hcall _ _ _ _ hs q hq
        rw [hbud0] at hM
        have hlen2 : as'.length = zrN q := by
          have : xs.reverse.length = xs.length := List.length_reverse
          rw [hxs, List.length_cons] at this
          omega
        have hst : st.map (zTr G) = (as'.map (zTr G)).reverse ++ .ref (zRo G o) :: rest.map (zTr G) := by
          have hx2 : xs = as'.reverse ++ [.ref o] := by rw [← List.reverse_reverse xs, hxs, List.reverse_cons]
          rw [e1, hx2, List.map_append, List.map_append, List.map_reverse, List.append_assoc]
          rfl
        intro H locs cells slots LS hR hl hL h1 h2 h3 h4
        rw [hst]
        obtain ⟨vq, hvq, hvq2⟩ : ∃ vq : vw_C, vwCl[ci]? = some vq ∧ vq.1 = q.1.cls := by
          rw [hq] at hcls
          cases hz : vwCl[ci]? with
          | none => rw [hz] at hcls; cases hcls
          | some vq => rw [hz] at hcls; exact ⟨vq, rfl, Option.some.inj hcls⟩
        have hA := hR.2.2.1 o
        rw [hFo] at hA
        obtain ⟨cell, q1, q2, q3, -⟩ := hA vq hvq
        have hfc := (hK.1 ci vq hvq).2.1
        rw [hvq2] at hfc
        have hgood : ∀ w ∈ zWs q, w ∈ zGW := fun w hw2 => by
          rcases List.mem_cons.mp hw2 with e | e
          · rw [e]; exact m1
          · exact e
        rcases hlink with hlink | ⟨hk1, -⟩
        · refine zAfter (Bz := (0, 0)) (h := h) (va_runV (C := q.1.cls) (As := as'.map (zTr G)) (rest := rest.map (zTr G)) ⟨hx, hb, hml, hown, hts⟩ hM (cwV (zrN q) hts (fun w hw2 => by
            rcases List.mem_append.mp hw2 with e | e
            · simp only [List.mem_cons, List.not_mem_nil, or_false] at e
              rcases e with rfl | rfl | rfl | rfl
              · exact zGood hlink
              · exact zGood m5a
              · exact zGood m5b
              · exact zGood m2
            · exact zGood (hgood w e)) rfl (by unfold zRm; rw [hbud0]) (by unfold zRm; rw [hbud0]) ⟨rfl, m3⟩ ⟨Nat.le_trans hfr hF, Nat.le_trans hlo hW⟩) ⟨zBlind, ⟨cell, q1, by rw [q3]; rfl, by rw [q2]; exact hfc⟩, fun U hU hWm => ⟨rfl, by rw [hU]; exact hR, zEv_warm hWm hE⟩⟩ rfl (by rw [List.length_map, hlen2]) hL.2.1 rfl (lv_room (zCatsum rest hlen)) hd2 ⟨by show cells + 0 ≤ _; omega, by show slots + 0 ≤ _; omega⟩) hl fun v h' H1 locs1 hv hR1 hbb hl1 => ?_
          obtain ⟨vs, hv1, hv2⟩ := zRt_go (G := G) hv
          rw [hv2]
          exact hk _ _ _ _ hv1 H1 locs1 _ _ LS hR1 hl1 hL (by rw [hbb]; show h.1.1 + 0 = _; omega) (by rw [hbb]; show h.1.2 + 0 = _; omega) (by show cells + 0 ≤ _; omega) (by show slots + 0 ≤ _; omega)
        · exact absurd (hkd.symm.trans hk1) (by decide)
      · exact hs.elim
    · rename_i _ hne0
      have hw2 : (zrO r == 6 && (match (generalizing := false) b with | 0 => i == zStrIx.1 && Nat.ble 2 (zrF r) && Nat.ble 48 (zrW r) | _ => i == zStrIx.2 && Nat.ble 4 (zrF r) && Nat.ble 111 (zrW r))) = true := by
        cases w <;> first | exact (hne0 _ rfl).elim | exact hw
      simp only [Bool.and_eq_true, beq_iff_eq] at hw2
      obtain ⟨hw3, hw4⟩ := hw2
      split at hs
      · simp only [Bool.and_eq_true, beq_iff_eq] at hw4
        obtain ⟨⟨hw5, hw6⟩, hw7⟩ := hw4
        subst hw5
        split at hs
        · rename_i o st
          obtain ⟨hne, hlen, hs⟩ := hs
          intro H locs cells slots LS hR hl hL h1 h2 h3 h4
          exact hstr.1 pc o _ H locs cells slots LS hd2 hw3 (Nat.le_trans (Nat.le_of_ble_eq_true hw6) hF) (Nat.le_trans (Nat.le_of_ble_eq_true hw7) hW) hne hR.2.1 (by rw [hR.1]; omega) hl hL.2.1 (by rw [List.length_map]; exact hlen) (Nat.le_trans h3 hB1) (Nat.le_trans h4 hB2) (fun locs1 hl1 => hk _ _ _ _ hs H locs1 cells slots LS hR hl1 hL h1 h2 h3 h4)
        · exact hs.elim
      · rename_i hb0
        have hw5 : (i == zStrIx.2 && Nat.ble 4 (zrF r) && Nat.ble 111 (zrW r)) = true := by
          split at hw4
          · exact absurd rfl hb0
          · exact hw4
        simp only [Bool.and_eq_true, beq_iff_eq] at hw5
        obtain ⟨⟨hw5, hw6⟩, hw7⟩ := hw5
        subst hw5
        split at hs
        · rename_i j o st
          obtain ⟨hin, hlen, hs⟩ := hs
          intro H locs cells slots LS hR hl hL h1 h2 h3 h4
          exact hstr.2 pc o j _ H locs cells slots LS hd2 hw3 (Nat.le_trans (Nat.le_of_ble_eq_true hw6) hF) (Nat.le_trans (Nat.le_of_ble_eq_true hw7) hW) hin hR.2.1 (by rw [hR.1]; omega) hl hL.2.1 (by rw [List.length_map]; exact hlen) (Nat.le_trans h3 hB1) (Nat.le_trans h4 hB2) (fun locs1 hl1 => hk _ _ _ _ hs H locs1 cells slots LS hR hl1 hL h1 h2 h3 h4)
        · exact hs.elim
  all_goals exact hs.elim
end ZW
