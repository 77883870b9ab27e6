/-! A small machine over numbered cells: what a method does, said without the large machine. Cells 0 to 7 are old ones (0: the script, 1 to 4: the texts), from 8 on those made since the law began. -/
abbrev zCell : Type := (Nat × (Nat → Value)) ⊕ (Nat × Nat × (Nat → Int32)) ⊕ (Nat × (Nat → Int64)) ⊕ (Nat × Nat × (Nat → Option Nat))
abbrev zH : Type := (Nat × Nat) × (Nat → zCell)
abbrev zO (ci : Nat) (F : Nat → Value) : zCell := Sum.inl (ci, F)
abbrev zI (t n : Nat) (f : Nat → Int32) : zCell := Sum.inr (Sum.inl (t, n, f))
abbrev zL (n : Nat) (f : Nat → Int64) : zCell := Sum.inr (Sum.inr (Sum.inl (n, f)))
abbrev zR (ci n : Nat) (f : Nat → Option Nat) : zCell := Sum.inr (Sum.inr (Sum.inr (ci, n, f)))
def zU {α : Type} (f : Nat → α) (k : Nat) (x : α) : Nat → α := fun j => if j = k then x else f j
def zP (h : zH) (a : Nat) (c : zCell) : zH := (h.1, zU h.2 a c)
def zNew (h : zH) (n : Nat) (c : zCell) : zH := ((h.1.1 + 1, h.1.2 + n), zU h.2 (8 + h.1.1) c)
abbrev zD : Value := Value.float 0
abbrev zEnt : Type := Instr × Nat × Nat × Nat × Nat × Value × List Nat × List Nat
abbrev zCd : Type := Nat → Option zEnt
abbrev zK : Type := Nat → List Value → List Value → zH → Prop
abbrev zQ : Type := Option Value → zH → Prop
/-- a table: pieces, each with its last place -/
def zFs : List (Nat × zEnt) → Nat → Option zEnt
  | [], _ => none
  | q :: qs, pc => bif Nat.beq q.1 pc then some q.2 else zFs qs pc
def zFd : List (Nat × List (Nat × zEnt)) → Nat → Option zEnt
  | [], _ => none
  | c :: cs, pc => bif Nat.ble pc c.1 then zFs c.2 pc else zFd cs pc
theorem zFs_mem {pc : Nat} {t : zEnt} : ∀ (l : List (Nat × zEnt)), zFs l pc = some t → (pc, t) ∈ l
  | [], h => by cases h
  | q :: qs, h => by
    unfold zFs at h
    cases hq : Nat.beq q.1 pc with
    | true =>
      rw [hq] at h
      have e : q.1 = pc := Nat.eq_of_beq_eq_true hq
      have e2 : q.2 = t := Option.some.inj h
      rw [← e, ← e2]
      exact List.mem_cons_self
    | false => rw [hq] at h; exact List.mem_cons_of_mem _ (zFs_mem qs h)
theorem zFd_mem {pc : Nat} {t : zEnt} : ∀ (l : List (Nat × List (Nat × zEnt))), zFd l pc = some t → ∃ c ∈ l, (pc, t) ∈ c.2
  | [], h => by cases h
  | c :: cs, h => by
    unfold zFd at h
    cases hq : Nat.ble pc c.1 with
    | true => rw [hq] at h; exact ⟨c, List.mem_cons_self, zFs_mem _ h⟩
    | false =>
      rw [hq] at h
      obtain ⟨c', h1, h2⟩ := zFd_mem cs h
      exact ⟨c', List.mem_cons_of_mem _ h1, h2⟩
def zKill : List Nat → List Value → List Value
  | [], ls => ls
  | k :: ks, ls => zKill ks (ls.set k zD)
def zKl (C : zCd) (pc : Nat) (ls : List Value) : List Value := match C pc with
  | some t => zKill t.2.2.2.2.2.2.1 ls
  | none => ls
/-- a store at place a: a long that lies across it is gone -/
def zG (b a : Nat) (ls : List Value) (K : List Value → Prop) : Prop := match b with
  | 0 => (match a with
    | 0 => K ls
    | j + 1 => (match ls[j]? with
      | some (.long _) => False
      | some (.double _) => False
      | _ => K ls))
  | _ => K (ls.set (a - 1) zD)
def zTy (c : Nat) (v : Value) (K : Value → Prop) : Prop := match c with
  | 0 => ∃ x, v = .int x ∧ K (.int x)
  | 1 => ∃ x, v = .long x ∧ K (.long x)
  | _ => ∃ x, v = .ref x ∧ K (.ref x)
def zRt (c : Nat) (r : Option Value) (K : List Value → Prop) : Prop := match c with
  | 0 => ∃ x, r = some (.int x) ∧ K [.int x]
  | 1 => ∃ x, r = some (.long x) ∧ K [.long x]
  | 2 => ∃ x, r = some (.ref x) ∧ K [.ref x]
  | _ => r = none ∧ K []
/-- what a field or an answer of a kind may hold: 0 int, 1 long, 2 reference, 3 truth -/
def zFt (c : Nat) (v : Value) (K : Prop) : Prop := match c with
  | 0 => (match v with | .int _ => K | _ => False)
  | 1 => (match v with | .long _ => K | _ => False)
  | 2 => (match v with | .ref _ => K | _ => False)
  | _ => (match v with | .int x => (x = 0 ∨ x = 1) ∧ K | _ => False)
def zDf (tg : List Nat) : Nat → Value := fun j => match tg[j]? with
  | some 0 => .int 0
  | some 1 => .long 0
  | _ => .null
def zIn (j : Int32) (n : Nat) : Prop := ¬ j < 0 ∧ j.toNatClampNeg < n
def zSw (x : Int32) (K : Nat → Prop) (dflt : Nat) : Nat → List Nat → Prop
  | _, [] => K dflt
  | i, t :: ts => if x = Int32.ofNat i then K t else zSw x K dflt (i + 1) ts
def zLay : List Value → List Value
  | [] => []
  | .long x :: vs => .long x :: zD :: zLay vs
  | .double x :: vs => .double x :: zD :: zLay vs
  | v :: vs => v :: zLay vs
def zPad : Nat → List Value → List Value
  | 0, _ => []
  | n + 1, [] => zD :: zPad n []
  | n + 1, v :: vs => v :: zPad n vs
def zTk : Nat → List Value → List Value → (List Value → List Value → Prop) → Prop
  | 0, acc, st, K => K acc st
  | n + 1, acc, v :: st, K => zTk n (v :: acc) st K
  | _ + 1, _, [], _ => False
/-- the four texts -/
def zTx (k : Nat) : List Nat := match k with
  | 1 => [99, 108, 111, 99, 107, 115]
  | 2 => [104, 101, 97, 114]
  | 3 => [108, 105, 109, 105, 116]
  | 4 => [108, 101, 97, 115, 116]
  | _ => []
/-- a copy of a piece of a row -/
def zCpy (f g : Nat → Int32) (sp dp n : Nat) : Nat → Int32 := fun k => if dp ≤ k ∧ k < dp + n then f (sp + (k - dp)) else g k
/-- one step: t the instruction, B what the method may make, e what had been made when it began, k where it goes on, call a call, Q its end -/
def zSem (t : zEnt) (B e : Nat × Nat) (k : zK) (call : Nat → List Value → zH → zQ → Prop) (Q : zQ) (ls st : List Value) (h : zH) : Prop :=
  match t with
  | (ins, nx, a, b, c, w, _, tg) => match ins with
    | .iconst _ => k nx ls (w :: st) h
    | .bipush _ => k nx ls (w :: st) h
    | .sipush _ => k nx ls (w :: st) h
    | .lconst _ => k nx ls (w :: st) h
    | .ldc _ => k nx ls (w :: st) h
    | .ldc_w _ => k nx ls (w :: st) h
    | .ldc2_w _ => k nx ls (w :: st) h
    | .iload _ => (match ls[a]? with | some (.int x) => k nx ls (.int x :: st) h | _ => False)
    | .iload_n _ => (match ls[a]? with | some (.int x) => k nx ls (.int x :: st) h | _ => False)
    | .lload _ => (match ls[a]? with | some (.long x) => k nx ls (.long x :: st) h | _ => False)
    | .lload_n _ => (match ls[a]? with | some (.long x) => k nx ls (.long x :: st) h | _ => False)
    | .aload _ => (match ls[a]? with | some (.ref x) => k nx ls (.ref x :: st) h | _ => False)
    | .aload_n _ => (match ls[a]? with | some (.ref x) => k nx ls (.ref x :: st) h | _ => False)
    | .istore _ => (match st with | .int x :: st => zG b a ls (fun ls => k nx (ls.set a (.int x)) st h) | _ => False)
    | .istore_n _ => (match st with | .int x :: st => zG b a ls (fun ls => k nx (ls.set a (.int x)) st h) | _ => False)
    | .lstore _ => (match st with | .long x :: st => zG b a ls (fun ls => k nx ((ls.set a (.long x)).set (a + 1) zD) st h) | _ => False)
    | .lstore_n _ => (match st with | .long x :: st => zG b a ls (fun ls => k nx ((ls.set a (.long x)).set (a + 1) zD) st h) | _ => False)
    | .astore _ => (match st with | .ref x :: st => zG b a ls (fun ls => k nx (ls.set a (.ref x)) st h) | _ => False)
    | .astore_n _ => (match st with | .ref x :: st => zG b a ls (fun ls => k nx (ls.set a (.ref x)) st h) | _ => False)
    | .iinc _ _ => (match ls[a]?, w with | some (.int x), .int v => zG b a ls (fun ls => k nx (ls.set a (.int (x + v))) st h) | _, _ => False)
    | .iadd => (match st with | .int y :: .int x :: st => k nx ls (.int (x + y) :: st) h | _ => False)
    | .isub => (match st with | .int y :: .int x :: st => k nx ls (.int (x - y) :: st) h | _ => False)
    | .imul => (match st with | .int y :: .int x :: st => k nx ls (.int (x * y) :: st) h | _ => False)
    | .irem => (match st with | .int y :: .int x :: st => ¬ y = 0 ∧ k nx ls (.int (x - x / y * y) :: st) h | _ => False)
    | .iand => (match st with | .int y :: .int x :: st => k nx ls (.int (x &&& y) :: st) h | _ => False)
    | .ior => (match st with | .int y :: .int x :: st => k nx ls (.int (x ||| y) :: st) h | _ => False)
    | .ixor => (match st with | .int y :: .int x :: st => k nx ls (.int (x ^^^ y) :: st) h | _ => False)
    | .ishl => (match st with | .int y :: .int x :: st => k nx ls (.int (x <<< (y &&& 31)) :: st) h | _ => False)
    | .ishr => (match st with | .int y :: .int x :: st => k nx ls (.int (x >>> (y &&& 31)) :: st) h | _ => False)
    | .iushr => (match st with | .int y :: .int x :: st => k nx ls (.int (x.toUInt32 >>> (y.toUInt32 &&& Int32.toUInt32 31)).toInt32 :: st) h | _ => False)
    | .ladd => (match st with | .long y :: .long x :: st => k nx ls (.long (x + y) :: st) h | _ => False)
    | .lsub => (match st with | .long y :: .long x :: st => k nx ls (.long (x - y) :: st) h | _ => False)
    | .lmul => (match st with | .long y :: .long x :: st => k nx ls (.long (x * y) :: st) h | _ => False)
    | .ldiv => (match st with | .long y :: .long x :: st => ¬ y = 0 ∧ k nx ls (.long (x / y) :: st) h | _ => False)
    | .lrem => (match st with | .long y :: .long x :: st => ¬ y = 0 ∧ k nx ls (.long (x - x / y * y) :: st) h | _ => False)
    | .lneg => (match st with | .long x :: st => k nx ls (.long (-x) :: st) h | _ => False)
    | .land => (match st with | .long y :: .long x :: st => k nx ls (.long (x &&& y) :: st) h | _ => False)
    | .lor => (match st with | .long y :: .long x :: st => k nx ls (.long (x ||| y) :: st) h | _ => False)
    | .lxor => (match st with | .long y :: .long x :: st => k nx ls (.long (x ^^^ y) :: st) h | _ => False)
    | .lshl => (match st with | .int y :: .long x :: st => k nx ls (.long (x <<< (y.toInt64 &&& 63)) :: st) h | _ => False)
    | .lcmp => (match st with | .long y :: .long x :: st => k nx ls (.int (lg_cmp x y) :: st) h | _ => False)
    | .i2l => (match st with | .int x :: st => k nx ls (.long x.toInt64 :: st) h | _ => False)
    | .l2i => (match st with | .long x :: st => k nx ls (.int x.toInt32 :: st) h | _ => False)
    | .i2s => (match st with | .int x :: st => k nx ls (.int x.toInt16.toInt32 :: st) h | _ => False)
    | .i2b => (match st with | .int x :: st => k nx ls (.int x.toInt8.toInt32 :: st) h | _ => False)
    | .dup => (match st with | .int x :: st => k nx ls (.int x :: .int x :: st) h | .ref x :: st => k nx ls (.ref x :: .ref x :: st) h | _ => False)
    | .dup2 => (match st with | .int j :: .ref x :: st => k nx ls (.int j :: .ref x :: .int j :: .ref x :: st) h | _ => False)
    | .goto _ => k a ls st h
    | .if_icmp cd _ => (match st with
      | .int y :: .int x :: st => (match cd with
        | .eq => if x = y then k a ls st h else k nx ls st h
        | .ne => if x = y then k nx ls st h else k a ls st h
        | .lt => if x < y then k a ls st h else k nx ls st h
        | .ge => if y ≤ x then k a ls st h else k nx ls st h
        | .gt => if y < x then k a ls st h else k nx ls st h
        | .le => if x ≤ y then k a ls st h else k nx ls st h)
      | _ => False)
    | .ifCond cd _ => (match st with
      | .int x :: st => (match cd with
        | .eq => if x = 0 then k a ls st h else k nx ls st h
        | .ne => if x = 0 then k nx ls st h else k a ls st h
        | .lt => if x < 0 then k a ls st h else k nx ls st h
        | .ge => if 0 ≤ x then k a ls st h else k nx ls st h
        | .gt => if 0 < x then k a ls st h else k nx ls st h
        | .le => if x ≤ 0 then k a ls st h else k nx ls st h)
      | _ => False)
    | .tableswitch _ _ _ _ => (match st with
      | .int x :: st => zSw x (fun p => k p ls st h) a b tg
      | _ => False)
    | .getfield _ => (match st with
      | .ref o :: st => ∃ F, h.2 o = zO a F ∧ zTy c (F b) (fun v => k nx ls (v :: st) h)
      | _ => False)
    | .putfield _ => (match st with
      | v :: .ref o :: st => zFt c v (∃ F, h.2 o = zO a F ∧ ∀ g, g = zP h o (zO a (zU F b v)) → k nx ls st g)
      | _ => False)
    | .iaload => (match st with
      | .int j :: .ref o :: st => ∃ n f, h.2 o = zI a n f ∧ zIn j n ∧ k nx ls (.int (f j.toNatClampNeg) :: st) h
      | _ => False)
    | .baload => (match st with
      | .int j :: .ref o :: st => ∃ n f, h.2 o = zI a n f ∧ zIn j n ∧ k nx ls (.int (f j.toNatClampNeg) :: st) h
      | _ => False)
    | .laload => (match st with
      | .int j :: .ref o :: st => ∃ n f, h.2 o = zL n f ∧ zIn j n ∧ k nx ls (.long (f j.toNatClampNeg) :: st) h
      | _ => False)
    | .aaload => (match st with
      | .int j :: .ref o :: st => ∃ n f, h.2 o = zR a n f ∧ zIn j n ∧ ∃ x, f j.toNatClampNeg = some x ∧ k nx ls (.ref x :: st) h
      | _ => False)
    | .iastore => (match st with
      | .int x :: .int j :: .ref o :: st => ∃ n f, h.2 o = zI 0 n f ∧ zIn j n ∧ ∀ g, g = zP h o (zI 0 n (zU f j.toNatClampNeg x)) → k nx ls st g
      | _ => False)
    | .bastore => (match st with
      | .int x :: .int j :: .ref o :: st => (match a with
        | 1 => (x = 0 ∨ x = 1) ∧ ∃ n f, h.2 o = zI 1 n f ∧ zIn j n ∧ ∀ g, g = zP h o (zI 1 n (zU f j.toNatClampNeg x)) → k nx ls st g
        | 2 => ∃ n f, h.2 o = zI 2 n f ∧ zIn j n ∧ ∀ g, g = zP h o (zI 2 n (zU f j.toNatClampNeg x.toInt8.toInt32)) → k nx ls st g
        | _ => False)
      | _ => False)
    | .lastore => (match st with
      | .long x :: .int j :: .ref o :: st => ∃ n f, h.2 o = zL n f ∧ zIn j n ∧ ∀ g, g = zP h o (zL n (zU f j.toNatClampNeg x)) → k nx ls st g
      | _ => False)
    | .aastore => (match st with
      | .ref x :: .int j :: .ref o :: st => (∃ F, h.2 x = zO a F) ∧ ∃ n f, h.2 o = zR a n f ∧ zIn j n ∧ ∀ g, g = zP h o (zR a n (zU f j.toNatClampNeg (some x))) → k nx ls st g
      | _ => False)
    | .arraylength => (match st with
      | .ref o :: st => (match b with
        | 0 => ∃ n f, h.2 o = zI a n f ∧ k nx ls (.int (Int32.ofNat n) :: st) h
        | 1 => ∃ n f, h.2 o = zL n f ∧ k nx ls (.int (Int32.ofNat n) :: st) h
        | _ => ∃ n f, h.2 o = zR a n f ∧ k nx ls (.int (Int32.ofNat n) :: st) h)
      | _ => False)
    | .new _ => (h.1.1 + 1 ≤ e.1 + B.1 ∧ h.1.2 + b ≤ e.2 + B.2) ∧ ∀ g, g = zNew h b (zO a (zDf tg)) → k nx ls (.ref (8 + h.1.1) :: st) g
    | .newarray _ => (match st with
      | .int n :: st => (¬ n < 0 ∧ n.toNatClampNeg ≤ 65536 ∧ h.1.1 + 1 ≤ e.1 + B.1 ∧ h.1.2 + n.toNatClampNeg ≤ e.2 + B.2) ∧ (match b with
        | 0 => ∀ g, g = zNew h n.toNatClampNeg (zI a n.toNatClampNeg (fun _ => 0)) → k nx ls (.ref (8 + h.1.1) :: st) g
        | _ => ∀ g, g = zNew h n.toNatClampNeg (zL n.toNatClampNeg (fun _ => 0)) → k nx ls (.ref (8 + h.1.1) :: st) g)
      | _ => False)
    | .anewarray _ => (match st with
      | .int n :: st => (¬ n < 0 ∧ n.toNatClampNeg ≤ 65536 ∧ h.1.1 + 1 ≤ e.1 + B.1 ∧ h.1.2 + n.toNatClampNeg ≤ e.2 + B.2) ∧ ∀ g, g = zNew h n.toNatClampNeg (zR a n.toNatClampNeg (fun _ => none)) → k nx ls (.ref (8 + h.1.1) :: st) g
      | _ => False)
    | .ireturn => (match st with | [.int x] => zFt c (.int x) (Q (some (.int x)) h) | _ => False)
    | .lreturn => (match st with | [.long x] => Q (some (.long x)) h | _ => False)
    | .areturn => (match st with | [.ref x] => Q (some (.ref x)) h | _ => False)
    | .return_ => (match st with | [] => (match tg with | [] => Q none h | _ => (h.1 = (e.1 + B.1, e.2 + B.2)) ∧ Q none h) | _ => False)
    | .invokestatic _ => (match w with
      | .null => zTk b [] st (fun as st => bif Nat.ble st.length 4 then call a as h (fun r h => zRt c r (fun vs => k nx ls (vs ++ st) h)) else False)
      | _ => (match st with
        | [.int n, .int dp, .ref q, .int sp, .ref o] => ¬ o = q ∧ ∃ n1 f n2 f2, h.2 o = zI 0 n1 f ∧ h.2 q = zI 0 n2 f2 ∧ (¬ n < 0 ∧ ¬ sp < 0 ∧ ¬ dp < 0 ∧ sp.toNatClampNeg + n.toNatClampNeg ≤ n1 ∧ dp.toNatClampNeg + n.toNatClampNeg ≤ n2) ∧ ∀ g, g = zP h q (zI 0 n2 (zCpy f f2 sp.toNatClampNeg dp.toNatClampNeg n.toNatClampNeg)) → k nx ls [] g
        | _ => False))
    | .invokespecial _ => (match w with
      | .null => (match tg with
        | m :: n :: _ => (h.1.1 + m ≤ e.1 + B.1 ∧ h.1.2 + n ≤ e.2 + B.2) ∧ zTk b [] st (fun as st => (match as with | .ref _ :: _ => (bif Nat.ble st.length 4 then call a as h (fun r h => zRt c r (fun vs => k nx ls (vs ++ st) h)) else False) | _ => False))
        | _ => zTk b [] st (fun as st => (match as with | .ref _ :: _ => (bif Nat.ble st.length 4 then call a as h (fun r h => zRt c r (fun vs => k nx ls (vs ++ st) h)) else False) | _ => False)))
      | _ => (match st with | .ref _ :: st => (bif Nat.ble st.length 4 then k nx ls st h else False) | _ => False))
    | .invokevirtual _ => (match w with
      | .ref ci => zTk b [] st (fun as st => (match as with | .ref o :: _ => (∃ F, h.2 o = zO ci F) ∧ (bif Nat.ble st.length 4 then call a as h (fun r h => zRt c r (fun vs => k nx ls (vs ++ st) h)) else False) | _ => False))
      | _ => (match b with
        | 0 => (match st with | .ref o :: st => ¬ zTx o = [] ∧ st.length ≤ 4 ∧ k nx ls (.int (Int32.ofNat (zTx o).length) :: st) h | _ => False)
        | _ => (match st with | .int j :: .ref o :: st => zIn j (zTx o).length ∧ st.length ≤ 4 ∧ k nx ls (.int (Int32.ofNat ((zTx o).getD j.toNatClampNeg 0)) :: st) h | _ => False)))
    | _ => False
abbrev zTb : Type := Nat → zCd × (Nat × Nat) × Nat
/-- the least that is closed under the steps: from here the method comes to its end, with Q; calls go at most d deep -/
def zWg (T : zTb) : Nat → Nat → Nat × Nat → Nat → List Value → List Value → zH → zQ → Prop
  | 0, _, _, _, _, _, _, _ => False
  | d + 1, y, e, pc, ls, st, h, Q => ∀ I : zK, (∀ (pc : Nat) (ls st : List Value) (h : zH) (t : zEnt), (T y).1 pc = some t →
      zSem t (T y).2.1 e (fun p l s g => I p (zKl (T y).1 p l) s g) (fun z as g K => bif Nat.ble (zLay as).length (T z).2.2 then zWg T d z g.1 0 (zPad (T z).2.2 (zLay as)) [] g K else False) Q ls st h → I pc ls st h) → I pc ls st h
/-- a call -/
def zCl (T : zTb) (d : Nat) : Nat → List Value → zH → zQ → Prop := fun z as g K => bif Nat.ble (zLay as).length (T z).2.2 then zWg T d z g.1 0 (zPad (T z).2.2 (zLay as)) [] g K else False
theorem zB_mono {b : Bool} {K K' : Prop} (hK : K → K') (h : bif b then K else False) : bif b then K' else False := by
  cases b
  · exact h
  · exact hK h
theorem zG_mono {b a : Nat} {ls : List Value} {K K' : List Value → Prop} (hK : ∀ l, K l → K' l) (h : zG b a ls K) : zG b a ls K' := by
  unfold zG at h ⊢
  split at h
  · split at h
    · exact hK _ h
    · split at h
      · exact h
      · exact h
      · exact hK _ h
  · exact hK _ h
theorem zFt_mono {c : Nat} {v : Value} {K K' : Prop} (hK : K → K') (h : zFt c v K) : zFt c v K' := by
  unfold zFt at h ⊢
  split at h <;> (split at h <;> first | exact hK h | exact h.elim | exact ⟨h.1, hK h.2⟩)
theorem zSw_mono {x : Int32} {K K' : Nat → Prop} (hK : ∀ p, K p → K' p) (dflt : Nat) : ∀ (ts : List Nat) (i : Nat), zSw x K dflt i ts → zSw x K' dflt i ts
  | [], _, h => hK _ h
  | t :: ts, i, h => by
    unfold zSw at h ⊢
    split at h
    · rename_i c; rw [if_pos c]; exact hK _ h
    · rename_i c; rw [if_neg c]; exact zSw_mono hK dflt ts (i + 1) h
theorem zTk_mono {K K' : List Value → List Value → Prop} (hK : ∀ a b, K a b → K' a b) : ∀ (n : Nat) (acc st : List Value), zTk n acc st K → zTk n acc st K'
  | 0, _, _, h => hK _ _ h
  | n + 1, acc, v :: st, h => zTk_mono hK n (v :: acc) st h
  | _ + 1, _, [], h => h
theorem zTy_mono {c : Nat} {v : Value} {K K' : Value → Prop} (hK : ∀ a, K a → K' a) (h : zTy c v K) : zTy c v K' := by
  unfold zTy at h ⊢
  split at h
  · obtain ⟨x, h1, h2⟩ := h; exact ⟨x, h1, hK _ h2⟩
  · obtain ⟨x, h1, h2⟩ := h; exact ⟨x, h1, hK _ h2⟩
  · obtain ⟨x, h1, h2⟩ := h; exact ⟨x, h1, hK _ h2⟩
theorem zRt_mono {c : Nat} {r : Option Value} {K K' : List Value → Prop} (hK : ∀ a, K a → K' a) (h : zRt c r K) : zRt c r K' := by
  unfold zRt at h ⊢
  split at h
  · obtain ⟨x, h1, h2⟩ := h; exact ⟨x, h1, hK _ h2⟩
  · obtain ⟨x, h1, h2⟩ := h; exact ⟨x, h1, hK _ h2⟩
  · obtain ⟨x, h1, h2⟩ := h; exact ⟨x, h1, hK _ h2⟩
  · exact ⟨h.1, hK _ h.2⟩
set_option maxHeartbeats 4000000 in
theorem zSem_mono {t : zEnt} {B e : Nat × Nat} {k k' : zK} {call call' : Nat → List Value → zH → zQ → Prop} {Q Q' : zQ} {ls st : List Value} {h : zH}
    (hk : ∀ p l s g, k p l s g → k' p l s g) (hc : ∀ z as g (K K' : zQ), (∀ r g', K r g' → K' r g') → call z as g K → call' z as g K') (hQ : ∀ r g, Q r g → Q' r g) (H : zSem t B e k call Q ls st h) : zSem t B e k' call' Q' ls st h := by
  obtain ⟨ins, nx, a, b, c, w, kl, tg⟩ := t
  cases ins <;> first
    | exact H
    | exact hk _ _ _ _ H
    | exact ⟨H.1, fun g hg => hk _ _ _ _ (H.2 g hg)⟩
    | (unfold zSem at H ⊢; dsimp only at H ⊢; revert H; split <;> first | exact id | exact hk _ _ _ _ | exact zG_mono (fun _ => hk _ _ _ _) | (intro H; first | exact H.elim | exact ⟨H.1, hk _ _ _ _ H.2⟩ | exact zFt_mono (hQ _ _) H | exact hQ _ _ H))
    | (unfold zSem at H ⊢; dsimp only at H ⊢; revert H; split <;> first | exact id | (split <;> (split <;> exact hk _ _ _ _)))
    | (unfold zSem at H ⊢; dsimp only at H ⊢; revert H; split <;> first | exact id | exact zSw_mono (fun _ => hk _ _ _ _) _ _ _)
    | (unfold zSem at H ⊢; dsimp only at H ⊢; revert H; split <;> first | exact id | (rintro ⟨F, h1, h2⟩; exact ⟨F, h1, zTy_mono (fun _ => hk _ _ _ _) h2⟩) | exact zFt_mono (fun ⟨F, h1, h2⟩ => ⟨F, h1, fun g hg => hk _ _ _ _ (h2 g hg)⟩) | (rintro ⟨n, f, h1, h2, h3⟩; exact ⟨n, f, h1, h2, hk _ _ _ _ h3⟩) | (rintro ⟨n, f, h1, h2, h3⟩; exact ⟨n, f, h1, h2, fun g hg => hk _ _ _ _ (h3 g hg)⟩) | (rintro ⟨n, f, h1, h2, x, h3, h4⟩; exact ⟨n, f, h1, h2, x, h3, hk _ _ _ _ h4⟩) | (rintro ⟨h0, n, f, h1, h2, h3⟩; exact ⟨h0, n, f, h1, h2, fun g hg => hk _ _ _ _ (h3 g hg)⟩))
    | (unfold zSem at H ⊢; dsimp only at H ⊢; revert H; split <;> first | exact id | (split <;> first | exact id | (rintro ⟨h0, n, f, h1, h2, h3⟩; exact ⟨h0, n, f, h1, h2, fun g hg => hk _ _ _ _ (h3 g hg)⟩) | (rintro ⟨n, f, h1, h2, h3⟩; exact ⟨n, f, h1, h2, hk _ _ _ _ h3⟩) | (rintro ⟨n, f, h1, h2, h3⟩; exact ⟨n, f, h1, h2, fun g hg => hk _ _ _ _ (h3 g hg)⟩) | (rintro ⟨n, f, h1, h2⟩; exact ⟨n, f, h1, hk _ _ _ _ h2⟩)))
    | (unfold zSem at H ⊢; dsimp only at H ⊢; revert H; split <;> first | exact id | (rintro ⟨h0, h1⟩; exact ⟨h0, fun g hg => hk _ _ _ _ (h1 g hg)⟩) | (rintro ⟨h0, h1⟩; refine ⟨h0, ?_⟩; revert h1; split <;> exact fun h1 g hg => hk _ _ _ _ (h1 g hg)))
    | (unfold zSem at H ⊢; dsimp only at H ⊢; revert H; split <;> first | exact id | (split <;> first | exact hQ _ _ | (rintro ⟨h0, h1⟩; exact ⟨h0, hQ _ _ h1⟩)))
    | (unfold zSem at H ⊢; dsimp only at H ⊢; revert H; split <;> first | exact zTk_mono (fun _ _ => zB_mono (hc _ _ _ _ _ (fun _ _ => zRt_mono (fun _ => hk _ _ _ _)))) _ _ _ | (split <;> first | exact id | (rintro ⟨h0, n1, f, n2, g, h1, h2, h3, h4⟩; exact ⟨h0, n1, f, n2, g, h1, h2, h3, fun g hg => hk _ _ _ _ (h4 g hg)⟩)))
    | (unfold zSem at H ⊢; dsimp only at H ⊢; revert H; split <;> first
        | (split <;> first
            | (refine zTk_mono (fun as s => ?_) _ _ _; split <;> first | exact id | exact zB_mono (hc _ _ _ _ _ (fun _ _ => zRt_mono (fun _ => hk _ _ _ _))))
            | (rintro ⟨h0, h1⟩; refine ⟨h0, zTk_mono (fun as s => ?_) _ _ _ h1⟩; split <;> first | exact id | exact zB_mono (hc _ _ _ _ _ (fun _ _ => zRt_mono (fun _ => hk _ _ _ _)))))
        | (split <;> first | exact zB_mono (hk _ _ _ _) | exact id))
    | (unfold zSem at H ⊢; dsimp only at H ⊢; revert H; split <;> first | (split <;> first | exact zTk_mono (fun _ _ => zB_mono (hc _ _ _ _ _ (fun _ _ => zRt_mono (fun _ => hk _ _ _ _)))) _ _ _ | (rintro ⟨h0, h1⟩; exact ⟨h0, zTk_mono (fun _ _ => zB_mono (hc _ _ _ _ _ (fun _ _ => zRt_mono (fun _ => hk _ _ _ _)))) _ _ _ h1⟩) | exact zB_mono (hk _ _ _ _) | exact hk _ _ _ _ | exact id))
    | (unfold zSem at H ⊢; dsimp only at H ⊢; revert H; split <;> first
        | (refine zTk_mono (fun as s => ?_) _ _ _; split <;> first | exact id | (rintro ⟨h0, h1⟩; exact ⟨h0, zB_mono (hc _ _ _ _ _ (fun _ _ => zRt_mono (fun _ => hk _ _ _ _))) h1⟩))
        | (split <;> (split <;> first | exact id | (rintro ⟨h0, h1, h2⟩; exact ⟨h0, h1, hk _ _ _ _ h2⟩))))
theorem zWg_mono {T : zTb} : ∀ (d y : Nat) (e : Nat × Nat) (pc : Nat) (ls st : List Value) (h : zH) (Q Q' : zQ), (∀ r g, Q r g → Q' r g) → zWg T d y e pc ls st h Q → zWg T d y e pc ls st h Q'
  | 0, _, _, _, _, _, _, _, _, _, H => H
  | d + 1, y, e, pc, ls, st, h, Q, Q', hQ, H => fun I hI => H I fun pc ls st h t ht hs => hI pc ls st h t ht (zSem_mono (fun _ _ _ _ => id) (fun z as g K K' hK hc => zB_mono (zWg_mono d z _ _ _ _ g K K' hK) hc) hQ hs)
theorem zCl_mono {T : zTb} {d z : Nat} {as : List Value} {g : zH} {K K' : zQ} (hK : ∀ r g', K r g' → K' r g') (h : zCl T d z as g K) : zCl T d z as g K' := zB_mono (zWg_mono d z _ _ _ _ g K K' hK) h
/-- a step -/
theorem zWg_step {T : zTb} {d y : Nat} {e : Nat × Nat} {pc : Nat} {ls st : List Value} {h : zH} {Q : zQ} {t : zEnt} (ht : (T y).1 pc = some t)
    (hs : zSem t (T y).2.1 e (fun p l s g => zWg T (d + 1) y e p (zKl (T y).1 p l) s g Q) (zCl T d) Q ls st h) : zWg T (d + 1) y e pc ls st h Q := fun I hI =>
  hI pc ls st h t ht (zSem_mono (fun p l s g hw => hw I hI) (fun _ _ _ _ _ hK hc => zCl_mono hK hc) (fun _ _ => id) hs)
/-- many steps, up to the places 'stops' -/
def zN (C : zCd) (B e : Nat × Nat) (call : Nat → List Value → zH → zQ → Prop) (Q : zQ) (stops : List Nat) (I : zK) : Nat → zK
  | 0 => I
  | n + 1 => fun pc ls st h => match C pc with
    | some t => zSem t B e (fun p l s g => bif stops.contains p then I p (zKl C p l) s g else zN C B e call Q stops I n p (zKl C p l) s g) call Q ls st h
    | none => False
theorem zWg_run {T : zTb} {d y : Nat} {e : Nat × Nat} {Q : zQ} {C : zCd} {B : Nat × Nat} (hC : (T y).1 = C) (hB : (T y).2.1 = B) (stops : List Nat) : ∀ (n pc : Nat) (ls st : List Value) (h : zH),
    zN C B e (zCl T d) Q stops (fun p l s g => zWg T (d + 1) y e p l s g Q) n pc ls st h → zWg T (d + 1) y e pc ls st h Q
  | 0, _, _, _, _, H => H
  | n + 1, pc, ls, st, h, H => by
    subst hC; subst hB
    unfold zN at H
    split at H
    · rename_i t ht
      refine zWg_step ht (zSem_mono (fun p l s g hw => ?_) (fun _ _ _ _ _ hK hc => zCl_mono hK hc) (fun _ _ => id) H)
      revert hw
      cases List.contains stops p
      · exact zWg_run rfl rfl stops n p _ s g
      · exact id
    · exact H.elim
