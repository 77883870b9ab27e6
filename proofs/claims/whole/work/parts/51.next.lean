/-! The class: the next token -/
section C
variable {d : Nat} {e : Nat × Nat} {h : zH} {Q : zQ} {F : Nat → Value} {T : Nat → Int32} {n p : Nat}
theorem cR_nextToken (hF : h.2 9 = zO 6 F) (f0 : F 0 = .ref 10) (f8 : F 8 = .int (nI p)) (ht : tpA h n T) (hn : n ≤ 300) (hp : p ≤ n)
    (K1 : tkX T n p = false → ∀ F', trT F' T n p → (∀ k, k < 6 ∨ k = 9 → F' k = F k) → Q (some (.int 1)) (zP h 9 (zO 6 F')))
    (K0 : tkX T n p = true → ∀ F', trT F' T n p → (∀ k, k < 2 ∨ k = 4 ∨ k = 5 ∨ k = 9 → F' k = F k) → F' 2 = .int 1 → F' 3 = .int (nI (tkF T n p)) → Q (some (.int 0)) (zP h 9 (zO 6 F'))) : zW (d + 2) m_Text_nextToken e 0 [.ref 9, zD] [] h Q := by
  have hf := tkF_le (T := T) hp
  have he := tkE_le (T := T) hp
  have tp : ∀ x, tpA (zP h 9 x) n T := fun x => ht.fr (zFr.put (A := fun z => z = 9) rfl) (by decide) (by decide)
  have top : ∀ x, ∃ F, (zP h 9 x).2 10 = zO 5 F ∧ F 0 = .int (nI n) := fun x => (tp x).1.imp fun _ w => ⟨w.1, w.2.1⟩
  refine b_Text_nextToken_0 ⟨F, hF, _, f0, F, hF, _, f8, ht.1.imp fun _ w => w.1, cT_behindRun ht hn hp ?_⟩
  rw [show rnT T 32 32 (n - p) p = tkF T n p from rfl]
  refine ⟨_, rfl, F, hF, ?_⟩
  rintro h9 rfl
  obtain ⟨F5, hF5, f50⟩ := top (zO 6 (zU F 7 (.int (nI (tkF T n p)))))
  refine ⟨_, zP_same _ _ _, _, rfl, _, zP_same _ _ _, _, f0, F5, hF5, _, f50, ifB (fun c => ?_) (fun c => ?_)⟩
  · have e1 : tkF T n p = n := (nI_eq (by omega) (by omega)).mp c
    have ek : tkK T n p = 0 := if_pos e1
    refine ⟨_, zP_same _ _ _, ?_⟩
    rintro h12 rfl
    rw [zP_zP]
    refine ⟨by decide, K1 (by unfold tkX; rw [ek]; rfl) _ ⟨by rw [ek]; rfl, rfl, fun q => absurd ek q⟩ (fun k hk => by rw [zU_ne _ _ (by omega), zU_ne _ _ (by omega)])⟩
  · have e1 : tkF T n p ≠ n := fun w => c (by show nI (tkF T n p) = nI n; rw [w])
    refine ⟨_, zP_same _ _ _, _, f0, _, zP_same _ _ _, _, rfl, (tp _).1.imp fun _ w => w.1, cT_byteAt (tp _) hn (show tkF T n p < 2 ^ 31 by omega) ⟨_, rfl, ?_⟩⟩
    rw [if_pos (show tkF T n p < n by omega)]
    have fld : ∀ (A B C : Value) k, k < 6 ∨ k = 9 → zU (zU (zU F 7 A) 6 B) 8 C k = F k := fun A B C k hk => by rw [zU_ne _ _ (by omega), zU_ne _ _ (by omega), zU_ne _ _ (by omega)]
    have p90 : ¬ (97 ≤ T (tkF T n p) ∧ T (tkF T n p) ≤ 122) → zW (d + 2) m_Text_nextToken e 90 [.ref 9, .int (T (tkF T n p))] [] (zP h 9 (zO 6 (zU F 7 (.int (nI (tkF T n p)))))) Q := fun cn => by
      have p153 : ¬ (48 ≤ T (tkF T n p) ∧ T (tkF T n p) ≤ 57) → zW (d + 2) m_Text_nextToken e 153 [.ref 9, .int (T (tkF T n p))] [] (zP h 9 (zO 6 (zU F 7 (.int (nI (tkF T n p)))))) Q := fun cm => by
        have ek : tkK T n p = 3 := by unfold tkK; rw [if_neg e1, if_neg cn, if_neg cm]
        have ee : tkE T n p = tkF T n p + 1 := by unfold tkE; rw [ek]; rfl
        refine b_Text_nextToken_153 ⟨_, zP_same _ _ _, ?_⟩
        rintro h2 rfl
        rw [zP_zP]
        refine ⟨_, zP_same _ _ _, _, rfl, _, zP_same _ _ _, ?_⟩
        rintro h6 rfl
        rw [zP_zP, nI_1]
        have tr : trT (zU (zU (zU F 7 (.int (nI (tkF T n p)))) 6 (.int 3)) 8 (.int (nI (tkF T n p + 1)))) T n p := ⟨by rw [ek]; rfl, rfl, fun _ => by rw [ee]; rfl⟩
        refine ifB (fun c2 => ⟨by decide, K1 (by unfold tkX; rw [ek, c2]; rfl) _ tr (fld _ _ _)⟩) (fun c2 => ⟨⟨_, zP_same _ _ _⟩, cR_refuse (f := tkF T n p) (zP_same _ _ _) rfl ⟨_, rfl, ifT rfl ⟨by decide, ?_⟩⟩⟩)
        rw [zP_zP]
        exact K0 (by unfold tkX; rw [ek]; simp [c2]) _ tr (fun k hk => by rw [zU_ne _ _ (by omega), zU_ne _ _ (by omega)]; exact fld _ _ _ k (by omega)) rfl rfl
      refine b_Text_nextToken_90 (ifB (fun c2 => p153 (fun w => absurd c2 (i32_ng.mpr w.1))) (fun c2 => ifB (fun c3 => p153 (fun w => absurd c3 (i32_ng.mpr w.2))) (fun c3 => ⟨_, zP_same _ _ _, ?_⟩)))
      have ek : tkK T n p = 2 := by unfold tkK; rw [if_neg e1, if_neg cn, if_pos ⟨i32_ng.mp c2, i32_ng.mp c3⟩]
      have ee : tkE T n p = rnT T 48 57 (n - tkF T n p) (tkF T n p) := by unfold tkE; rw [ek]; rfl
      rintro h2 rfl
      rw [zP_zP]
      refine ⟨_, zP_same _ _ _, _, f0, _, zP_same _ _ _, _, rfl, (tp _).1.imp fun _ w => w.1, cT_behindRun (tp _) hn hf.2 ?_⟩
      rw [← ee]
      refine ⟨_, rfl, _, zP_same _ _ _, ?_⟩
      rintro h11 rfl
      rw [zP_zP]
      have tr : trT (zU (zU (zU F 7 (.int (nI (tkF T n p)))) 6 (.int 2)) 8 (.int (nI (tkE T n p)))) T n p := ⟨by rw [ek]; rfl, rfl, fun _ => rfl⟩
      have es : nI (tkE T n p) - nI (tkF T n p) = nI (tkE T n p - tkF T n p) := pk_sub he.1
      refine ⟨_, zP_same _ _ _, _, rfl, _, zP_same _ _ _, _, rfl, ?_⟩
      rw [es]
      refine ifB (fun c4 => ⟨by decide, K1 ?_ _ tr (fld _ _ _)⟩) (fun c4 => ⟨⟨_, zP_same _ _ _⟩, cR_refuse (f := tkF T n p) (zP_same _ _ _) rfl ⟨_, rfl, ifT rfl ⟨by decide, ?_⟩⟩⟩)
      · have := (nI_leI (a := tkE T n p - tkF T n p) (b := 4) (by omega) (by omega)).mp c4
        unfold tkX
        rw [ek, decide_eq_false (by omega : ¬ 4 < tkE T n p - tkF T n p)]
        rfl
      · have := mt (nI_leI (a := tkE T n p - tkF T n p) (b := 4) (by omega) (by omega)).mpr c4
        rw [zP_zP]
        exact K0 (by unfold tkX; rw [ek, decide_eq_true (by omega : 4 < tkE T n p - tkF T n p)]; rfl) _ tr (fun k hk => by rw [zU_ne _ _ (by omega), zU_ne _ _ (by omega)]; exact fld _ _ _ k (by omega)) rfl rfl
    refine ifB (fun c2 => p90 (fun w => absurd c2 (i32_ng.mpr w.1))) (fun c2 => ifB (fun c3 => p90 (fun w => absurd c3 (i32_ng.mpr w.2))) (fun c3 => ⟨_, zP_same _ _ _, ?_⟩))
    have ek : tkK T n p = 1 := by unfold tkK; rw [if_neg e1, if_pos ⟨i32_ng.mp c2, i32_ng.mp c3⟩]
    have ee : tkE T n p = rnT T 97 122 (n - tkF T n p) (tkF T n p) := by unfold tkE; rw [ek]; rfl
    rintro h21 rfl
    rw [zP_zP]
    refine ⟨_, zP_same _ _ _, _, f0, _, zP_same _ _ _, _, rfl, (tp _).1.imp fun _ w => w.1, cT_behindRun (tp _) hn hf.2 ?_⟩
    rw [← ee]
    refine ⟨_, rfl, _, zP_same _ _ _, ?_⟩
    rintro h30 rfl
    rw [zP_zP]
    exact ⟨by decide, K1 (by unfold tkX; rw [ek]; rfl) _ ⟨by rw [ek]; rfl, rfl, fun _ => rfl⟩ (fld _ _ _)⟩
end C
