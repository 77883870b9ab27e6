section
/-! A small machine over numbered cells: what a method does, said without the large machine. Cells 0 to 7 are old ones (0: the script, 1 to 4: the texts), from 8 on those made since the law began. -/
abbrev zCell : Type := (Nat × (Nat → Value)) ⊕ (Nat × Nat × (Nat → Int32)) ⊕ (Nat × (Nat → Int64)) ⊕ (Nat × Nat × (Nat → Option Nat))
abbrev zH : Type := (Nat × Nat) × (Nat → zCell)
abbrev zO (ci : Nat) (F : Nat → Value) : zCell := Sum.inl (ci, F)
abbrev zI (t n : Nat) (f : Nat → Int32) : zCell := Sum.inr (Sum.inl (t, n, f))
abbrev zL (n : Nat) (f : Nat → Int64) : zCell := Sum.inr (Sum.inr (Sum.inl (n, f)))
abbrev zR (ci n : Nat) (f : Nat → Option Nat) : zCell := Sum.inr (Sum.inr (Sum.inr (ci, n, f)))
def zU {α : Type} (f : Nat → α) (k : Nat) (x : α) : Nat → α := fun j => if j = k then x else f j
def zP (h : zH) (a : Nat) (c : zCell) : zH := (h.1, zU h.2 a c)
def zNew (h : zH) (n : Nat) (c : zCell) : zH := ((h.1.1 + 1, h.1.2 + n), zU h.2 (8 + h.1.1) c)
abbrev zD : Value := Value.float 0
abbrev zEnt : Type := Instr × Nat × Nat × Nat × Nat × Value × List Nat × List Nat
abbrev zCd : Type := Nat → Option zEnt
abbrev zK : Type := Nat → List Value → List Value → zH → Prop
abbrev zQ : Type := Option Value → zH → Prop
/-- a table: pieces, each with its last place -/
def zFs : List (Nat × zEnt) → Nat → Option zEnt
  | [], _ => none
  | q :: qs, pc => bif Nat.beq q.1 pc then some q.2 else zFs qs pc
def zFd : List (Nat × List (Nat × zEnt)) → Nat → Option zEnt
  | [], _ => none
  | c :: cs, pc => bif Nat.ble pc c.1 then zFs c.2 pc else zFd cs pc
theorem zFs_mem {pc : Nat} {t : zEnt} : ∀ (l : List (Nat × zEnt)), zFs l pc = some t → (pc, t) ∈ l
  | [], h => by cases h
  | q :: qs, h => by
    unfold zFs at h
    cases hq : Nat.beq q.1 pc with
    | true =>
      rw [hq] at h
      have e : q.1 = pc := Nat.eq_of_beq_eq_true hq
      have e2 : q.2 = t := Option.some.inj h
      rw [← e, ← e2]
      exact List.mem_cons_self
    | false => rw [hq] at h; exact List.mem_cons_of_mem _ (zFs_mem qs h)
theorem zFd_mem {pc : Nat} {t : zEnt} : ∀ (l : List (Nat × List (Nat × zEnt))), zFd l pc = some t → ∃ c ∈ l, (pc, t) ∈ c.2
  | [], h => by cases h
  | c :: cs, h => by
    unfold zFd at h
    cases hq : Nat.ble pc c.1 with
    | true => rw [hq] at h; exact ⟨c, List.mem_cons_self, zFs_mem _ h⟩
    | false =>
      rw [hq] at h
      obtain ⟨c', h1, h2⟩ := zFd_mem cs h
      exact ⟨c', List.mem_cons_of_mem _ h1, h2⟩
def zKill : List Nat → List Value → List Value
  | [], ls => ls
  | k :: ks, ls => zKill ks (ls.set k zD)
def zKl (C : zCd) (pc : Nat) (ls : List Value) : List Value := match C pc with
  | some t => zKill t.2.2.2.2.2.2.1 ls
  | none => ls
/-- a store at place a: a long that lies across it is gone -/
def zG (b a : Nat) (ls : List Value) (K : List Value → Prop) : Prop := match b with
  | 0 => (match a with
    | 0 => K ls
    | j + 1 => (match ls[j]? with
      | some (.long _) => False
      | some (.double _) => False
      | _ => K ls))
  | _ => K (ls.set (a - 1) zD)
def zTy (c : Nat) (v : Value) (K : Value → Prop) : Prop := match c with
  | 0 => ∃ x, v = .int x ∧ K (.int x)
  | 1 => ∃ x, v = .long x ∧ K (.long x)
  | _ => ∃ x, v = .ref x ∧ K (.ref x)
def zRt (c : Nat) (r : Option Value) (K : List Value → Prop) : Prop := match c with
  | 0 => ∃ x, r = some (.int x) ∧ K [.int x]
  | 1 => ∃ x, r = some (.long x) ∧ K [.long x]
  | 2 => ∃ x, r = some (.ref x) ∧ K [.ref x]
  | _ => r = none ∧ K []
/-- what a field or an answer of a kind may hold: 0 int, 1 long, 2 reference, 3 truth -/
def zFt (c : Nat) (v : Value) (K : Prop) : Prop := match c with
  | 0 => (match v with | .int _ => K | _ => False)
  | 1 => (match v with | .long _ => K | _ => False)
  | 2 => (match v with | .ref _ => K | _ => False)
  | _ => (match v with | .int x => (x = 0 ∨ x = 1) ∧ K | _ => False)
def zDf (tg : List Nat) : Nat → Value := fun j => match tg[j]? with
  | some 0 => .int 0
  | some 1 => .long 0
  | _ => .null
def zIn (j : Int32) (n : Nat) : Prop := ¬ j < 0 ∧ j.toNatClampNeg < n
def zSw (x : Int32) (K : Nat → Prop) (dflt : Nat) : Nat → List Nat → Prop
  | _, [] => K dflt
  | i, t :: ts => if x = Int32.ofNat i then K t else zSw x K dflt (i + 1) ts
def zLay : List Value → List Value
  | [] => []
  | .long x :: vs => .long x :: zD :: zLay vs
  | .double x :: vs => .double x :: zD :: zLay vs
  | v :: vs => v :: zLay vs
def zPad : Nat → List Value → List Value
  | 0, _ => []
  | n + 1, [] => zD :: zPad n []
  | n + 1, v :: vs => v :: zPad n vs
def zTk : Nat → List Value → List Value → (List Value → List Value → Prop) → Prop
  | 0, acc, st, K => K acc st
  | n + 1, acc, v :: st, K => zTk n (v :: acc) st K
  | _ + 1, _, [], _ => False
/-- the four texts -/
def zTx (k : Nat) : List Nat := match k with
  | 1 => [99, 108, 111, 99, 107, 115]
  | 2 => [104, 101, 97, 114]
  | 3 => [108, 105, 109, 105, 116]
  | 4 => [108, 101, 97, 115, 116]
  | _ => []
/-- a copy of a piece of a row -/
def zCpy (f g : Nat → Int32) (sp dp n : Nat) : Nat → Int32 := fun k => if dp ≤ k ∧ k < dp + n then f (sp + (k - dp)) else g k
/-- one step: t the instruction, B what the method may make, e what had been made when it began, k where it goes on, call a call, Q its end -/
def zSem (t : zEnt) (B e : Nat × Nat) (k : zK) (call : Nat → List Value → zH → zQ → Prop) (Q : zQ) (ls st : List Value) (h : zH) : Prop :=
  match t with
  | (ins, nx, a, b, c, w, _, tg) => match ins with
    | .iconst _ => k nx ls (w :: st) h
    | .bipush _ => k nx ls (w :: st) h
    | .sipush _ => k nx ls (w :: st) h
    | .lconst _ => k nx ls (w :: st) h
    | .ldc _ => k nx ls (w :: st) h
    | .ldc_w _ => k nx ls (w :: st) h
    | .ldc2_w _ => k nx ls (w :: st) h
    | .iload _ => (match ls[a]? with | some (.int x) => k nx ls (.int x :: st) h | _ => False)
    | .iload_n _ => (match ls[a]? with | some (.int x) => k nx ls (.int x :: st) h | _ => False)
    | .lload _ => (match ls[a]? with | some (.long x) => k nx ls (.long x :: st) h | _ => False)
    | .lload_n _ => (match ls[a]? with | some (.long x) => k nx ls (.long x :: st) h | _ => False)
    | .aload _ => (match ls[a]? with | some (.ref x) => k nx ls (.ref x :: st) h | _ => False)
    | .aload_n _ => (match ls[a]? with | some (.ref x) => k nx ls (.ref x :: st) h | _ => False)
    | .istore _ => (match st with | .int x :: st => zG b a ls (fun ls => k nx (ls.set a (.int x)) st h) | _ => False)
    | .istore_n _ => (match st with | .int x :: st => zG b a ls (fun ls => k nx (ls.set a (.int x)) st h) | _ => False)
    | .lstore _ => (match st with | .long x :: st => zG b a ls (fun ls => k nx ((ls.set a (.long x)).set (a + 1) zD) st h) | _ => False)
    | .lstore_n _ => (match st with | .long x :: st => zG b a ls (fun ls => k nx ((ls.set a (.long x)).set (a + 1) zD) st h) | _ => False)
    | .astore _ => (match st with | .ref x :: st => zG b a ls (fun ls => k nx (ls.set a (.ref x)) st h) | _ => False)
    | .astore_n _ => (match st with | .ref x :: st => zG b a ls (fun ls => k nx (ls.set a (.ref x)) st h) | _ => False)
    | .iinc _ _ => (match ls[a]?, w with | some (.int x), .int v => zG b a ls (fun ls => k nx (ls.set a (.int (x + v))) st h) | _, _ => False)
    | .iadd => (match st with | .int y :: .int x :: st => k nx ls (.int (x + y) :: st) h | _ => False)
    | .isub => (match st with | .int y :: .int x :: st => k nx ls (.int (x - y) :: st) h | _ => False)
    | .imul => (match st with | .int y :: .int x :: st => k nx ls (.int (x * y) :: st) h | _ => False)
    | .irem => (match st with | .int y :: .int x :: st => ¬ y = 0 ∧ k nx ls (.int (x - x / y * y) :: st) h | _ => False)
    | .iand => (match st with | .int y :: .int x :: st => k nx ls (.int (x &&& y) :: st) h | _ => False)
    | .ior => (match st with | .int y :: .int x :: st => k nx ls (.int (x ||| y) :: st) h | _ => False)
    | .ixor => (match st with | .int y :: .int x :: st => k nx ls (.int (x ^^^ y) :: st) h | _ => False)
    | .ishl => (match st with | .int y :: .int x :: st => k nx ls (.int (x <<< (y &&& 31)) :: st) h | _ => False)
    | .ishr => (match st with | .int y :: .int x :: st => k nx ls (.int (x >>> (y &&& 31)) :: st) h | _ => False)
    | .iushr => (match st with | .int y :: .int x :: st => k nx ls (.int (x.toUInt32 >>> (y.toUInt32 &&& Int32.toUInt32 31)).toInt32 :: st) h | _ => False)
    | .ladd => (match st with | .long y :: .long x :: st => k nx ls (.long (x + y) :: st) h | _ => False)
    | .lsub => (match st with | .long y :: .long x :: st => k nx ls (.long (x - y) :: st) h | _ => False)
    | .lmul => (match st with | .long y :: .long x :: st => k nx ls (.long (x * y) :: st) h | _ => False)
    | .ldiv => (match st with | .long y :: .long x :: st => ¬ y = 0 ∧ k nx ls (.long (x / y) :: st) h | _ => False)
    | .lrem => (match st with | .long y :: .long x :: st => ¬ y = 0 ∧ k nx ls (.long (x - x / y * y) :: st) h | _ => False)
    | .lneg => (match st with | .long x :: st => k nx ls (.long (-x) :: st) h | _ => False)
    | .land => (match st with | .long y :: .long x :: st => k nx ls (.long (x &&& y) :: st) h | _ => False)
    | .lor => (match st with | .long y :: .long x :: st => k nx ls (.long (x ||| y) :: st) h | _ => False)
    | .lxor => (match st with | .long y :: .long x :: st => k nx ls (.long (x ^^^ y) :: st) h | _ => False)
    | .lshl => (match st with | .int y :: .long x :: st => k nx ls (.long (x <<< (y.toInt64 &&& 63)) :: st) h | _ => False)
    | .lcmp => (match st with | .long y :: .long x :: st => k nx ls (.int (lg_cmp x y) :: st) h | _ => False)
    | .i2l => (match st with | .int x :: st => k nx ls (.long x.toInt64 :: st) h | _ => False)
    | .l2i => (match st with | .long x :: st => k nx ls (.int x.toInt32 :: st) h | _ => False)
    | .i2s => (match st with | .int x :: st => k nx ls (.int x.toInt16.toInt32 :: st) h | _ => False)
    | .i2b => (match st with | .int x :: st => k nx ls (.int x.toInt8.toInt32 :: st) h | _ => False)
    | .dup => (match st with | .int x :: st => k nx ls (.int x :: .int x :: st) h | .ref x :: st => k nx ls (.ref x :: .ref x :: st) h | _ => False)
    | .dup2 => (match st with | .int j :: .ref x :: st => k nx ls (.int j :: .ref x :: .int j :: .ref x :: st) h | _ => False)
    | .goto _ => k a ls st h
    | .if_icmp cd _ => (match st with
      | .int y :: .int x :: st => (match cd with
        | .eq => if x = y then k a ls st h else k nx ls st h
        | .ne => if x = y then k nx ls st h else k a ls st h
        | .lt => if x < y then k a ls st h else k nx ls st h
        | .ge => if y ≤ x then k a ls st h else k nx ls st h
        | .gt => if y < x then k a ls st h else k nx ls st h
        | .le => if x ≤ y then k a ls st h else k nx ls st h)
      | _ => False)
    | .ifCond cd _ => (match st with
      | .int x :: st => (match cd with
        | .eq => if x = 0 then k a ls st h else k nx ls st h
        | .ne => if x = 0 then k nx ls st h else k a ls st h
        | .lt => if x < 0 then k a ls st h else k nx ls st h
        | .ge => if 0 ≤ x then k a ls st h else k nx ls st h
        | .gt => if 0 < x then k a ls st h else k nx ls st h
        | .le => if x ≤ 0 then k a ls st h else k nx ls st h)
      | _ => False)
    | .tableswitch _ _ _ _ => (match st with
      | .int x :: st => zSw x (fun p => k p ls st h) a b tg
      | _ => False)
    | .getfield _ => (match st with
      | .ref o :: st => ∃ F, h.2 o = zO a F ∧ zTy c (F b) (fun v => k nx ls (v :: st) h)
      | _ => False)
    | .putfield _ => (match st with
      | v :: .ref o :: st => zFt c v (∃ F, h.2 o = zO a F ∧ ∀ g, g = zP h o (zO a (zU F b v)) → k nx ls st g)
      | _ => False)
    | .iaload => (match st with
      | .int j :: .ref o :: st => ∃ n f, h.2 o = zI a n f ∧ zIn j n ∧ k nx ls (.int (f j.toNatClampNeg) :: st) h
      | _ => False)
    | .baload => (match st with
      | .int j :: .ref o :: st => ∃ n f, h.2 o = zI a n f ∧ zIn j n ∧ k nx ls (.int (f j.toNatClampNeg) :: st) h
      | _ => False)
    | .laload => (match st with
      | .int j :: .ref o :: st => ∃ n f, h.2 o = zL n f ∧ zIn j n ∧ k nx ls (.long (f j.toNatClampNeg) :: st) h
      | _ => False)
    | .aaload => (match st with
      | .int j :: .ref o :: st => ∃ n f, h.2 o = zR a n f ∧ zIn j n ∧ ∃ x, f j.toNatClampNeg = some x ∧ k nx ls (.ref x :: st) h
      | _ => False)
    | .iastore => (match st with
      | .int x :: .int j :: .ref o :: st => ∃ n f, h.2 o = zI 0 n f ∧ zIn j n ∧ ∀ g, g = zP h o (zI 0 n (zU f j.toNatClampNeg x)) → k nx ls st g
      | _ => False)
    | .bastore => (match st with
      | .int x :: .int j :: .ref o :: st => (match a with
        | 1 => (x = 0 ∨ x = 1) ∧ ∃ n f, h.2 o = zI 1 n f ∧ zIn j n ∧ ∀ g, g = zP h o (zI 1 n (zU f j.toNatClampNeg x)) → k nx ls st g
        | 2 => ∃ n f, h.2 o = zI 2 n f ∧ zIn j n ∧ ∀ g, g = zP h o (zI 2 n (zU f j.toNatClampNeg x.toInt8.toInt32)) → k nx ls st g
        | _ => False)
      | _ => False)
    | .lastore => (match st with
      | .long x :: .int j :: .ref o :: st => ∃ n f, h.2 o = zL n f ∧ zIn j n ∧ ∀ g, g = zP h o (zL n (zU f j.toNatClampNeg x)) → k nx ls st g
      | _ => False)
    | .aastore => (match st with
      | .ref x :: .int j :: .ref o :: st => (∃ F, h.2 x = zO a F) ∧ ∃ n f, h.2 o = zR a n f ∧ zIn j n ∧ ∀ g, g = zP h o (zR a n (zU f j.toNatClampNeg (some x))) → k nx ls st g
      | _ => False)
    | .arraylength => (match st with
      | .ref o :: st => (match b with
        | 0 => ∃ n f, h.2 o = zI a n f ∧ k nx ls (.int (Int32.ofNat n) :: st) h
        | 1 => ∃ n f, h.2 o = zL n f ∧ k nx ls (.int (Int32.ofNat n) :: st) h
        | _ => ∃ n f, h.2 o = zR a n f ∧ k nx ls (.int (Int32.ofNat n) :: st) h)
      | _ => False)
    | .new _ => (h.1.1 + 1 ≤ e.1 + B.1 ∧ h.1.2 + b ≤ e.2 + B.2) ∧ ∀ g, g = zNew h b (zO a (zDf tg)) → k nx ls (.ref (8 + h.1.1) :: st) g
    | .newarray _ => (match st with
      | .int n :: st => (¬ n < 0 ∧ n.toNatClampNeg ≤ 65536 ∧ h.1.1 + 1 ≤ e.1 + B.1 ∧ h.1.2 + n.toNatClampNeg ≤ e.2 + B.2) ∧ (match b with
        | 0 => ∀ g, g = zNew h n.toNatClampNeg (zI a n.toNatClampNeg (fun _ => 0)) → k nx ls (.ref (8 + h.1.1) :: st) g
        | _ => ∀ g, g = zNew h n.toNatClampNeg (zL n.toNatClampNeg (fun _ => 0)) → k nx ls (.ref (8 + h.1.1) :: st) g)
      | _ => False)
    | .anewarray _ => (match st with
      | .int n :: st => (¬ n < 0 ∧ n.toNatClampNeg ≤ 65536 ∧ h.1.1 + 1 ≤ e.1 + B.1 ∧ h.1.2 + n.toNatClampNeg ≤ e.2 + B.2) ∧ ∀ g, g = zNew h n.toNatClampNeg (zR a n.toNatClampNeg (fun _ => none)) → k nx ls (.ref (8 + h.1.1) :: st) g
      | _ => False)
    | .ireturn => (match st with | [.int x] => zFt c (.int x) (Q (some (.int x)) h) | _ => False)
    | .lreturn => (match st with | [.long x] => Q (some (.long x)) h | _ => False)
    | .areturn => (match st with | [.ref x] => Q (some (.ref x)) h | _ => False)
    | .return_ => (match st with | [] => (match tg with | [] => Q none h | _ => (h.1 = (e.1 + B.1, e.2 + B.2)) ∧ Q none h) | _ => False)
    | .invokestatic _ => (match w with
      | .null => zTk b [] st (fun as st => bif Nat.ble st.length 4 then call a as h (fun r h => zRt c r (fun vs => k nx ls (vs ++ st) h)) else False)
      | _ => (match st with
        | [.int n, .int dp, .ref q, .int sp, .ref o] => ¬ o = q ∧ ∃ n1 f n2 f2, h.2 o = zI 0 n1 f ∧ h.2 q = zI 0 n2 f2 ∧ (¬ n < 0 ∧ ¬ sp < 0 ∧ ¬ dp < 0 ∧ sp.toNatClampNeg + n.toNatClampNeg ≤ n1 ∧ dp.toNatClampNeg + n.toNatClampNeg ≤ n2) ∧ ∀ g, g = zP h q (zI 0 n2 (zCpy f f2 sp.toNatClampNeg dp.toNatClampNeg n.toNatClampNeg)) → k nx ls [] g
        | _ => False))
    | .invokespecial _ => (match w with
      | .null => (match tg with
        | m :: n :: _ => (h.1.1 + m ≤ e.1 + B.1 ∧ h.1.2 + n ≤ e.2 + B.2) ∧ zTk b [] st (fun as st => (match as with | .ref _ :: _ => (bif Nat.ble st.length 4 then call a as h (fun r h => zRt c r (fun vs => k nx ls (vs ++ st) h)) else False) | _ => False))
        | _ => zTk b [] st (fun as st => (match as with | .ref _ :: _ => (bif Nat.ble st.length 4 then call a as h (fun r h => zRt c r (fun vs => k nx ls (vs ++ st) h)) else False) | _ => False)))
      | _ => (match st with | .ref _ :: st => (bif Nat.ble st.length 4 then k nx ls st h else False) | _ => False))
    | .invokevirtual _ => (match w with
      | .ref ci => zTk b [] st (fun as st => (match as with | .ref o :: _ => (∃ F, h.2 o = zO ci F) ∧ (bif Nat.ble st.length 4 then call a as h (fun r h => zRt c r (fun vs => k nx ls (vs ++ st) h)) else False) | _ => False))
      | _ => (match b with
        | 0 => (match st with | .ref o :: st => ¬ zTx o = [] ∧ st.length ≤ 4 ∧ k nx ls (.int (Int32.ofNat (zTx o).length) :: st) h | _ => False)
        | _ => (match st with | .int j :: .ref o :: st => zIn j (zTx o).length ∧ st.length ≤ 4 ∧ k nx ls (.int (Int32.ofNat ((zTx o).getD j.toNatClampNeg 0)) :: st) h | _ => False)))
    | _ => False
abbrev zTb : Type := Nat → zCd × (Nat × Nat) × Nat
/-- the least that is closed under the steps: from here the method comes to its end, with Q; calls go at most d deep -/
def zWg (T : zTb) : Nat → Nat → Nat × Nat → Nat → List Value → List Value → zH → zQ → Prop
  | 0, _, _, _, _, _, _, _ => False
  | d + 1, y, e, pc, ls, st, h, Q => ∀ I : zK, (∀ (pc : Nat) (ls st : List Value) (h : zH) (t : zEnt), (T y).1 pc = some t →
      zSem t (T y).2.1 e (fun p l s g => I p (zKl (T y).1 p l) s g) (fun z as g K => bif Nat.ble (zLay as).length (T z).2.2 then zWg T d z g.1 0 (zPad (T z).2.2 (zLay as)) [] g K else False) Q ls st h → I pc ls st h) → I pc ls st h
/-- a call -/
def zCl (T : zTb) (d : Nat) : Nat → List Value → zH → zQ → Prop := fun z as g K => bif Nat.ble (zLay as).length (T z).2.2 then zWg T d z g.1 0 (zPad (T z).2.2 (zLay as)) [] g K else False
theorem zB_mono {b : Bool} {K K' : Prop} (hK : K → K') (h : bif b then K else False) : bif b then K' else False := by
  cases b
  · exact h
  · exact hK h
theorem zG_mono {b a : Nat} {ls : List Value} {K K' : List Value → Prop} (hK : ∀ l, K l → K' l) (h : zG b a ls K) : zG b a ls K' := by
  unfold zG at h ⊢
  split at h
  · split at h
    · exact hK _ h
    · split at h
      · exact h
      · exact h
      · exact hK _ h
  · exact hK _ h
theorem zFt_mono {c : Nat} {v : Value} {K K' : Prop} (hK : K → K') (h : zFt c v K) : zFt c v K' := by
  unfold zFt at h ⊢
  split at h <;> (split at h <;> first | exact hK h | exact h.elim | exact ⟨h.1, hK h.2⟩)
theorem zSw_mono {x : Int32} {K K' : Nat → Prop} (hK : ∀ p, K p → K' p) (dflt : Nat) : ∀ (ts : List Nat) (i : Nat), zSw x K dflt i ts → zSw x K' dflt i ts
  | [], _, h => hK _ h
  | t :: ts, i, h => by
    unfold zSw at h ⊢
    split at h
    · rename_i c; rw [if_pos c]; exact hK _ h
    · rename_i c; rw [if_neg c]; exact zSw_mono hK dflt ts (i + 1) h
theorem zTk_mono {K K' : List Value → List Value → Prop} (hK : ∀ a b, K a b → K' a b) : ∀ (n : Nat) (acc st : List Value), zTk n acc st K → zTk n acc st K'
  | 0, _, _, h => hK _ _ h
  | n + 1, acc, v :: st, h => zTk_mono hK n (v :: acc) st h
  | _ + 1, _, [], h => h
theorem zTy_mono {c : Nat} {v : Value} {K K' : Value → Prop} (hK : ∀ a, K a → K' a) (h : zTy c v K) : zTy c v K' := by
  unfold zTy at h ⊢
  split at h
  · obtain ⟨x, h1, h2⟩ := h; exact ⟨x, h1, hK _ h2⟩
  · obtain ⟨x, h1, h2⟩ := h; exact ⟨x, h1, hK _ h2⟩
  · obtain ⟨x, h1, h2⟩ := h; exact ⟨x, h1, hK _ h2⟩
theorem zRt_mono {c : Nat} {r : Option Value} {K K' : List Value → Prop} (hK : ∀ a, K a → K' a) (h : zRt c r K) : zRt c r K' := by
  unfold zRt at h ⊢
  split at h
  · obtain ⟨x, h1, h2⟩ := h; exact ⟨x, h1, hK _ h2⟩
  · obtain ⟨x, h1, h2⟩ := h; exact ⟨x, h1, hK _ h2⟩
  · obtain ⟨x, h1, h2⟩ := h; exact ⟨x, h1, hK _ h2⟩
  · exact ⟨h.1, hK _ h.2⟩
set_option maxHeartbeats 4000000 in
theorem zSem_mono {t : zEnt} {B e : Nat × Nat} {k k' : zK} {call call' : Nat → List Value → zH → zQ → Prop} {Q Q' : zQ} {ls st : List Value} {h : zH}
    (hk : ∀ p l s g, k p l s g → k' p l s g) (hc : ∀ z as g (K K' : zQ), (∀ r g', K r g' → K' r g') → call z as g K → call' z as g K') (hQ : ∀ r g, Q r g → Q' r g) (H : zSem t B e k call Q ls st h) : zSem t B e k' call' Q' ls st h := by
  obtain ⟨ins, nx, a, b, c, w, kl, tg⟩ := t
  cases ins <;> first
    | exact H
    | exact hk _ _ _ _ H
    | exact ⟨H.1, fun g hg => hk _ _ _ _ (H.2 g hg)⟩
    | (unfold zSem at H ⊢; dsimp only at H ⊢; revert H; split <;> first | exact id | exact hk _ _ _ _ | exact zG_mono (fun _ => hk _ _ _ _) | (intro H; first | exact H.elim | exact ⟨H.1, hk _ _ _ _ H.2⟩ | exact zFt_mono (hQ _ _) H | exact hQ _ _ H))
    | (unfold zSem at H ⊢; dsimp only at H ⊢; revert H; split <;> first | exact id | (split <;> (split <;> exact hk _ _ _ _)))
    | (unfold zSem at H ⊢; dsimp only at H ⊢; revert H; split <;> first | exact id | exact zSw_mono (fun _ => hk _ _ _ _) _ _ _)
    | (unfold zSem at H ⊢; dsimp only at H ⊢; revert H; split <;> first | exact id | (rintro ⟨F, h1, h2⟩; exact ⟨F, h1, zTy_mono (fun _ => hk _ _ _ _) h2⟩) | exact zFt_mono (fun ⟨F, h1, h2⟩ => ⟨F, h1, fun g hg => hk _ _ _ _ (h2 g hg)⟩) | (rintro ⟨n, f, h1, h2, h3⟩; exact ⟨n, f, h1, h2, hk _ _ _ _ h3⟩) | (rintro ⟨n, f, h1, h2, h3⟩; exact ⟨n, f, h1, h2, fun g hg => hk _ _ _ _ (h3 g hg)⟩) | (rintro ⟨n, f, h1, h2, x, h3, h4⟩; exact ⟨n, f, h1, h2, x, h3, hk _ _ _ _ h4⟩) | (rintro ⟨h0, n, f, h1, h2, h3⟩; exact ⟨h0, n, f, h1, h2, fun g hg => hk _ _ _ _ (h3 g hg)⟩))
    | (unfold zSem at H ⊢; dsimp only at H ⊢; revert H; split <;> first | exact id | (split <;> first | exact id | (rintro ⟨h0, n, f, h1, h2, h3⟩; exact ⟨h0, n, f, h1, h2, fun g hg => hk _ _ _ _ (h3 g hg)⟩) | (rintro ⟨n, f, h1, h2, h3⟩; exact ⟨n, f, h1, h2, hk _ _ _ _ h3⟩) | (rintro ⟨n, f, h1, h2, h3⟩; exact ⟨n, f, h1, h2, fun g hg => hk _ _ _ _ (h3 g hg)⟩) | (rintro ⟨n, f, h1, h2⟩; exact ⟨n, f, h1, hk _ _ _ _ h2⟩)))
    | (unfold zSem at H ⊢; dsimp only at H ⊢; revert H; split <;> first | exact id | (rintro ⟨h0, h1⟩; exact ⟨h0, fun g hg => hk _ _ _ _ (h1 g hg)⟩) | (rintro ⟨h0, h1⟩; refine ⟨h0, ?_⟩; revert h1; split <;> exact fun h1 g hg => hk _ _ _ _ (h1 g hg)))
    | (unfold zSem at H ⊢; dsimp only at H ⊢; revert H; split <;> first | exact id | (split <;> first | exact hQ _ _ | (rintro ⟨h0, h1⟩; exact ⟨h0, hQ _ _ h1⟩)))
    | (unfold zSem at H ⊢; dsimp only at H ⊢; revert H; split <;> first | exact zTk_mono (fun _ _ => zB_mono (hc _ _ _ _ _ (fun _ _ => zRt_mono (fun _ => hk _ _ _ _)))) _ _ _ | (split <;> first | exact id | (rintro ⟨h0, n1, f, n2, g, h1, h2, h3, h4⟩; exact ⟨h0, n1, f, n2, g, h1, h2, h3, fun g hg => hk _ _ _ _ (h4 g hg)⟩)))
    | (unfold zSem at H ⊢; dsimp only at H ⊢; revert H; split <;> first
        | (split <;> first
            | (refine zTk_mono (fun as s => ?_) _ _ _; split <;> first | exact id | exact zB_mono (hc _ _ _ _ _ (fun _ _ => zRt_mono (fun _ => hk _ _ _ _))))
            | (rintro ⟨h0, h1⟩; refine ⟨h0, zTk_mono (fun as s => ?_) _ _ _ h1⟩; split <;> first | exact id | exact zB_mono (hc _ _ _ _ _ (fun _ _ => zRt_mono (fun _ => hk _ _ _ _)))))
        | (split <;> first | exact zB_mono (hk _ _ _ _) | exact id))
    | (unfold zSem at H ⊢; dsimp only at H ⊢; revert H; split <;> first | (split <;> first | exact zTk_mono (fun _ _ => zB_mono (hc _ _ _ _ _ (fun _ _ => zRt_mono (fun _ => hk _ _ _ _)))) _ _ _ | (rintro ⟨h0, h1⟩; exact ⟨h0, zTk_mono (fun _ _ => zB_mono (hc _ _ _ _ _ (fun _ _ => zRt_mono (fun _ => hk _ _ _ _)))) _ _ _ h1⟩) | exact zB_mono (hk _ _ _ _) | exact hk _ _ _ _ | exact id))
    | (unfold zSem at H ⊢; dsimp only at H ⊢; revert H; split <;> first
        | (refine zTk_mono (fun as s => ?_) _ _ _; split <;> first | exact id | (rintro ⟨h0, h1⟩; exact ⟨h0, zB_mono (hc _ _ _ _ _ (fun _ _ => zRt_mono (fun _ => hk _ _ _ _))) h1⟩))
        | (split <;> (split <;> first | exact id | (rintro ⟨h0, h1, h2⟩; exact ⟨h0, h1, hk _ _ _ _ h2⟩))))
theorem zWg_mono {T : zTb} : ∀ (d y : Nat) (e : Nat × Nat) (pc : Nat) (ls st : List Value) (h : zH) (Q Q' : zQ), (∀ r g, Q r g → Q' r g) → zWg T d y e pc ls st h Q → zWg T d y e pc ls st h Q'
  | 0, _, _, _, _, _, _, _, _, _, H => H
  | d + 1, y, e, pc, ls, st, h, Q, Q', hQ, H => fun I hI => H I fun pc ls st h t ht hs => hI pc ls st h t ht (zSem_mono (fun _ _ _ _ => id) (fun z as g K K' hK hc => zB_mono (zWg_mono d z _ _ _ _ g K K' hK) hc) hQ hs)
theorem zCl_mono {T : zTb} {d z : Nat} {as : List Value} {g : zH} {K K' : zQ} (hK : ∀ r g', K r g' → K' r g') (h : zCl T d z as g K) : zCl T d z as g K' := zB_mono (zWg_mono d z _ _ _ _ g K K' hK) h
/-- a step -/
theorem zWg_step {T : zTb} {d y : Nat} {e : Nat × Nat} {pc : Nat} {ls st : List Value} {h : zH} {Q : zQ} {t : zEnt} (ht : (T y).1 pc = some t)
    (hs : zSem t (T y).2.1 e (fun p l s g => zWg T (d + 1) y e p (zKl (T y).1 p l) s g Q) (zCl T d) Q ls st h) : zWg T (d + 1) y e pc ls st h Q := fun I hI =>
  hI pc ls st h t ht (zSem_mono (fun p l s g hw => hw I hI) (fun _ _ _ _ _ hK hc => zCl_mono hK hc) (fun _ _ => id) hs)
/-- many steps, up to the places 'stops' -/
def zN (C : zCd) (B e : Nat × Nat) (call : Nat → List Value → zH → zQ → Prop) (Q : zQ) (stops : List Nat) (I : zK) : Nat → zK
  | 0 => I
  | n + 1 => fun pc ls st h => match C pc with
    | some t => zSem t B e (fun p l s g => bif stops.contains p then I p (zKl C p l) s g else zN C B e call Q stops I n p (zKl C p l) s g) call Q ls st h
    | none => False
theorem zWg_run {T : zTb} {d y : Nat} {e : Nat × Nat} {Q : zQ} {C : zCd} {B : Nat × Nat} (hC : (T y).1 = C) (hB : (T y).2.1 = B) (stops : List Nat) : ∀ (n pc : Nat) (ls st : List Value) (h : zH),
    zN C B e (zCl T d) Q stops (fun p l s g => zWg T (d + 1) y e p l s g Q) n pc ls st h → zWg T (d + 1) y e pc ls st h Q
  | 0, _, _, _, _, H => H
  | n + 1, pc, ls, st, h, H => by
    subst hC; subst hB
    unfold zN at H
    split at H
    · rename_i t ht
      refine zWg_step ht (zSem_mono (fun p l s g hw => ?_) (fun _ _ _ _ _ hK hc => zCl_mono hK hc) (fun _ _ => id) H)
      revert hw
      cases List.contains stops p
      · exact zWg_run rfl rfl stops n p _ s g
      · exact id
    · exact H.elim
end
section
def zl_JInt_bitCount : List (Nat × List (Nat × zEnt)) := [(9, [(0, (.iload_n 0, 1, 0, 0, 0, .null, [], [])), (1, (.iload_n 0, 2, 0, 0, 0, .null, [], [])), (2, (.iconst 1, 3, 0, 0, 0, .int 1, [], [])), (3, (.iushr, 4, 0, 0, 0, .null, [], [])), (4, (.ldc_w 265, 7, 0, 0, 0, .int 1431655765, [], [])), (7, (.iand, 8, 0, 0, 0, .null, [], [])), (8, (.isub, 9, 0, 0, 0, .null, [], [])), (9, (.istore_n 0, 10, 0, 0, 0, .null, [], []))]),
  (21, [(10, (.iload_n 0, 11, 0, 0, 0, .null, [], [])), (11, (.ldc_w 266, 14, 0, 0, 0, .int 858993459, [], [])), (14, (.iand, 15, 0, 0, 0, .null, [], [])), (15, (.iload_n 0, 16, 0, 0, 0, .null, [], [])), (16, (.iconst 2, 17, 0, 0, 0, .int 2, [], [])), (17, (.iushr, 18, 0, 0, 0, .null, [], [])), (18, (.ldc_w 266, 21, 0, 0, 0, .int 858993459, [], [])), (21, (.iand, 22, 0, 0, 0, .null, [], []))]),
  (29, [(22, (.iadd, 23, 0, 0, 0, .null, [], [])), (23, (.istore_n 0, 24, 0, 0, 0, .null, [], [])), (24, (.iload_n 0, 25, 0, 0, 0, .null, [], [])), (25, (.iload_n 0, 26, 0, 0, 0, .null, [], [])), (26, (.iconst 4, 27, 0, 0, 0, .int 4, [], [])), (27, (.iushr, 28, 0, 0, 0, .null, [], [])), (28, (.iadd, 29, 0, 0, 0, .null, [], [])), (29, (.ldc_w 267, 32, 0, 0, 0, .int 252645135, [], []))]),
  (40, [(32, (.iand, 33, 0, 0, 0, .null, [], [])), (33, (.istore_n 0, 34, 0, 0, 0, .null, [], [])), (34, (.iload_n 0, 35, 0, 0, 0, .null, [], [])), (35, (.iload_n 0, 36, 0, 0, 0, .null, [], [])), (36, (.bipush 8, 38, 0, 0, 0, .int 8, [], [])), (38, (.iushr, 39, 0, 0, 0, .null, [], [])), (39, (.iadd, 40, 0, 0, 0, .null, [], [])), (40, (.istore_n 0, 41, 0, 0, 0, .null, [], []))]),
  (49, [(41, (.iload_n 0, 42, 0, 0, 0, .null, [], [])), (42, (.iload_n 0, 43, 0, 0, 0, .null, [], [])), (43, (.bipush 16, 45, 0, 0, 0, .int 16, [], [])), (45, (.iushr, 46, 0, 0, 0, .null, [], [])), (46, (.iadd, 47, 0, 0, 0, .null, [], [])), (47, (.istore_n 0, 48, 0, 0, 0, .null, [], [])), (48, (.iload_n 0, 49, 0, 0, 0, .null, [], [])), (49, (.bipush 63, 51, 0, 0, 0, .int 63, [], []))]),
  (52, [(51, (.iand, 52, 0, 0, 0, .null, [], [])), (52, (.ireturn, 53, 0, 0, 0, .null, [], []))])]
def zc_JInt_bitCount : zCd := zFd zl_JInt_bitCount
def zl_JMath_floorDiv : List (Nat × List (Nat × zEnt)) := [(8, [(0, (.lload_n 0, 1, 0, 0, 0, .null, [], [])), (1, (.lload_n 2, 2, 2, 0, 0, .null, [], [])), (2, (.ldiv, 3, 0, 0, 0, .null, [], [])), (3, (.lstore 4, 5, 4, 0, 0, .null, [], [])), (5, (.lload_n 0, 6, 0, 0, 0, .null, [], [])), (6, (.lload_n 2, 7, 2, 0, 0, .null, [], [])), (7, (.lxor, 8, 0, 0, 0, .null, [], [])), (8, (.lconst 0, 9, 0, 0, 0, .long 0, [], []))]),
  (19, [(9, (.lcmp, 10, 0, 0, 0, .null, [], [])), (10, (.ifCond .ge 17, 13, 27, 0, 0, .null, [], [])), (13, (.lload 4, 15, 4, 0, 0, .null, [], [])), (15, (.lload_n 2, 16, 2, 0, 0, .null, [], [])), (16, (.lmul, 17, 0, 0, 0, .null, [], [])), (17, (.lload_n 0, 18, 0, 0, 0, .null, [], [])), (18, (.lcmp, 19, 0, 0, 0, .null, [], [])), (19, (.ifCond .eq 8, 22, 27, 0, 0, .null, [], []))]),
  (29, [(22, (.lload 4, 24, 4, 0, 0, .null, [], [])), (24, (.lconst 1, 25, 0, 0, 0, .long 1, [], [])), (25, (.lsub, 26, 0, 0, 0, .null, [], [])), (26, (.lreturn, 27, 0, 0, 0, .null, [], [])), (27, (.lload 4, 29, 4, 0, 0, .null, [], [])), (29, (.lreturn, 30, 0, 0, 0, .null, [], []))])]
def zc_JMath_floorDiv : zCd := zFd zl_JMath_floorDiv
def zl_JMath_floorMod : List (Nat × List (Nat × zEnt)) := [(8, [(0, (.lload_n 0, 1, 0, 0, 0, .null, [], [])), (1, (.lload_n 2, 2, 2, 0, 0, .null, [], [])), (2, (.lrem, 3, 0, 0, 0, .null, [], [])), (3, (.lstore 4, 5, 4, 0, 0, .null, [], [])), (5, (.lload_n 0, 6, 0, 0, 0, .null, [], [])), (6, (.lload_n 2, 7, 2, 0, 0, .null, [], [])), (7, (.lxor, 8, 0, 0, 0, .null, [], [])), (8, (.lconst 0, 9, 0, 0, 0, .long 0, [], []))]),
  (22, [(9, (.lcmp, 10, 0, 0, 0, .null, [], [])), (10, (.ifCond .ge 15, 13, 25, 0, 0, .null, [], [])), (13, (.lload 4, 15, 4, 0, 0, .null, [], [])), (15, (.lconst 0, 16, 0, 0, 0, .long 0, [], [])), (16, (.lcmp, 17, 0, 0, 0, .null, [], [])), (17, (.ifCond .eq 8, 20, 25, 0, 0, .null, [], [])), (20, (.lload 4, 22, 4, 0, 0, .null, [], [])), (22, (.lload_n 2, 23, 2, 0, 0, .null, [], []))]),
  (27, [(23, (.ladd, 24, 0, 0, 0, .null, [], [])), (24, (.lreturn, 25, 0, 0, 0, .null, [], [])), (25, (.lload 4, 27, 4, 0, 0, .null, [], [])), (27, (.lreturn, 28, 0, 0, 0, .null, [], []))])]
def zc_JMath_floorMod : zCd := zFd zl_JMath_floorMod
def zl_JArr_fillJ : List (Nat × List (Nat × zEnt)) := [(9, [(0, (.iconst 0, 1, 0, 0, 0, .int 0, [], [])), (1, (.istore_n 3, 2, 3, 0, 0, .null, [], [])), (2, (.aload_n 0, 3, 0, 0, 0, .null, [], [])), (3, (.arraylength, 4, 0, 1, 0, .null, [], [])), (4, (.istore 4, 6, 4, 0, 0, .null, [], [])), (6, (.iload_n 3, 7, 3, 0, 0, .null, [2], [])), (7, (.iload 4, 9, 4, 0, 0, .null, [], [])), (9, (.if_icmp .ge 13, 12, 22, 0, 0, .null, [], []))]),
  (22, [(12, (.aload_n 0, 13, 0, 0, 0, .null, [], [])), (13, (.iload_n 3, 14, 3, 0, 0, .null, [], [])), (14, (.lload_n 1, 15, 1, 0, 0, .null, [], [])), (15, (.lastore, 16, 0, 0, 0, .null, [], [])), (16, (.iinc 3 1, 19, 3, 0, 0, .int 1, [], [])), (19, (.goto (-13), 22, 6, 0, 0, .null, [], [])), (22, (.return_, 23, 0, 0, 0, .null, [], []))])]
def zc_JArr_fillJ : zCd := zFd zl_JArr_fillJ
def zl_JArr_fillI : List (Nat × List (Nat × zEnt)) := [(7, [(0, (.iconst 0, 1, 0, 0, 0, .int 0, [], [])), (1, (.istore_n 2, 2, 2, 0, 0, .null, [], [])), (2, (.aload_n 0, 3, 0, 0, 0, .null, [], [])), (3, (.arraylength, 4, 0, 0, 0, .null, [], [])), (4, (.istore_n 3, 5, 3, 0, 0, .null, [], [])), (5, (.iload_n 2, 6, 2, 0, 0, .null, [], [])), (6, (.iload_n 3, 7, 3, 0, 0, .null, [], [])), (7, (.if_icmp .ge 13, 10, 20, 0, 0, .null, [], []))]),
  (20, [(10, (.aload_n 0, 11, 0, 0, 0, .null, [], [])), (11, (.iload_n 2, 12, 2, 0, 0, .null, [], [])), (12, (.iload_n 1, 13, 1, 0, 0, .null, [], [])), (13, (.iastore, 14, 0, 0, 0, .null, [], [])), (14, (.iinc 2 1, 17, 2, 0, 0, .int 1, [], [])), (17, (.goto (-12), 20, 5, 0, 0, .null, [], [])), (20, (.return_, 21, 0, 0, 0, .null, [], []))])]
def zc_JArr_fillI : zCd := zFd zl_JArr_fillI
def zl_Book_init : List (Nat × List (Nat × zEnt)) := [(11, [(0, (.aload_n 0, 1, 0, 0, 0, .null, [], [])), (1, (.invokespecial 3, 4, 0, 0, 0, .double 0, [], [])), (4, (.aload_n 0, 5, 0, 0, 0, .null, [], [])), (5, (.iconst 1, 6, 0, 0, 0, .int 1, [], [])), (6, (.putfield 9, 9, 0, 0, 0, .null, [], [])), (9, (.aload_n 0, 10, 0, 0, 0, .null, [], [])), (10, (.iconst 2, 11, 0, 0, 0, .int 2, [], [])), (11, (.putfield 15, 14, 0, 1, 0, .null, [], []))]),
  (27, [(14, (.aload_n 0, 15, 0, 0, 0, .null, [], [])), (15, (.iconst 3, 16, 0, 0, 0, .int 3, [], [])), (16, (.putfield 18, 19, 0, 2, 0, .null, [], [])), (19, (.aload_n 0, 20, 0, 0, 0, .null, [], [])), (20, (.bipush 112, 22, 0, 0, 0, .int 112, [], [])), (22, (.newarray .int, 24, 0, 0, 0, .null, [], [])), (24, (.putfield 21, 27, 0, 3, 2, .null, [], [])), (27, (.aload_n 0, 28, 0, 0, 0, .null, [], []))]),
  (36, [(28, (.getfield 21, 31, 0, 3, 2, .null, [], [])), (31, (.bipush (-4), 33, 0, 0, 0, .int (-4), [], [])), (33, (.invokestatic 25, 36, 4, 2, 9, .null, [], [])), (36, (.return_, 37, 0, 0, 0, .null, [], [1]))])]
def zc_Book_init : zCd := zFd zl_Book_init
def zl_Book_hasClock : List (Nat × List (Nat × zEnt)) := [(13, [(0, (.iload_n 1, 1, 1, 0, 0, .null, [], [])), (1, (.ifCond .lt 15, 4, 16, 0, 0, .null, [], [])), (4, (.iload_n 1, 5, 1, 0, 0, .null, [], [])), (5, (.aload_n 0, 6, 0, 0, 0, .null, [], [])), (6, (.getfield 9, 9, 0, 0, 0, .null, [], [])), (9, (.if_icmp .ge 7, 12, 16, 0, 0, .null, [], [])), (12, (.iconst 1, 13, 0, 0, 0, .int 1, [], [])), (13, (.goto 4, 16, 17, 0, 0, .null, [], []))]),
  (17, [(16, (.iconst 0, 17, 0, 0, 0, .int 0, [], [])), (17, (.ireturn, 18, 0, 0, 3, .null, [], []))])]
def zc_Book_hasClock : zCd := zFd zl_Book_hasClock
def zl_Book_stampAt : List (Nat × List (Nat × zEnt)) := [(10, [(0, (.aload_n 0, 1, 0, 0, 0, .null, [], [])), (1, (.getfield 21, 4, 0, 3, 2, .null, [], [])), (4, (.iload_n 2, 5, 2, 0, 0, .null, [], [])), (5, (.bipush 16, 7, 0, 0, 0, .int 16, [], [])), (7, (.imul, 8, 0, 0, 0, .null, [], [])), (8, (.iload_n 1, 9, 1, 0, 0, .null, [], [])), (9, (.iadd, 10, 0, 0, 0, .null, [], [])), (10, (.iaload, 11, 0, 0, 0, .null, [], []))]),
  (11, [(11, (.ireturn, 12, 0, 0, 0, .null, [], []))])]
def zc_Book_stampAt : zCd := zFd zl_Book_stampAt
def zl_Book_putStamp : List (Nat × List (Nat × zEnt)) := [(10, [(0, (.aload_n 0, 1, 0, 0, 0, .null, [], [])), (1, (.getfield 21, 4, 0, 3, 2, .null, [], [])), (4, (.iload_n 2, 5, 2, 0, 0, .null, [], [])), (5, (.bipush 16, 7, 0, 0, 0, .int 16, [], [])), (7, (.imul, 8, 0, 0, 0, .null, [], [])), (8, (.iload_n 1, 9, 1, 0, 0, .null, [], [])), (9, (.iadd, 10, 0, 0, 0, .null, [], [])), (10, (.iload_n 3, 11, 3, 0, 0, .null, [], []))]),
  (12, [(11, (.iastore, 12, 0, 0, 0, .null, [], [])), (12, (.return_, 13, 0, 0, 0, .null, [], []))])]
def zc_Book_putStamp : zCd := zFd zl_Book_putStamp
def zl_Book_startWith : List (Nat × List (Nat × zEnt)) := [(14, [(0, (.aload_n 0, 1, 0, 0, 0, .null, [], [])), (1, (.iload_n 1, 2, 1, 0, 0, .null, [], [])), (2, (.putfield 9, 5, 0, 0, 0, .null, [], [])), (5, (.aload_n 0, 6, 0, 0, 0, .null, [], [])), (6, (.getfield 21, 9, 0, 3, 2, .null, [], [])), (9, (.bipush (-4), 11, 0, 0, 0, .int (-4), [], [])), (11, (.invokestatic 25, 14, 4, 2, 9, .null, [], [])), (14, (.return_, 15, 0, 0, 0, .null, [], []))])]
def zc_Book_startWith : zCd := zFd zl_Book_startWith
def zl_Book_copyFrom : List (Nat × List (Nat × zEnt)) := [(13, [(0, (.aload_n 0, 1, 0, 0, 0, .null, [], [])), (1, (.aload_n 1, 2, 1, 0, 0, .null, [], [])), (2, (.getfield 9, 5, 0, 0, 0, .null, [], [])), (5, (.putfield 9, 8, 0, 0, 0, .null, [], [])), (8, (.aload_n 0, 9, 0, 0, 0, .null, [], [])), (9, (.aload_n 1, 10, 1, 0, 0, .null, [], [])), (10, (.getfield 15, 13, 0, 1, 0, .null, [], [])), (13, (.putfield 15, 16, 0, 1, 0, .null, [], []))]),
  (29, [(16, (.aload_n 0, 17, 0, 0, 0, .null, [], [])), (17, (.aload_n 1, 18, 1, 0, 0, .null, [], [])), (18, (.getfield 18, 21, 0, 2, 0, .null, [], [])), (21, (.putfield 18, 24, 0, 2, 0, .null, [], [])), (24, (.aload_n 1, 25, 1, 0, 0, .null, [], [])), (25, (.getfield 21, 28, 0, 3, 2, .null, [], [])), (28, (.iconst 0, 29, 0, 0, 0, .int 0, [], [])), (29, (.aload_n 0, 30, 0, 0, 0, .null, [], []))]),
  (42, [(30, (.getfield 21, 33, 0, 3, 2, .null, [], [])), (33, (.iconst 0, 34, 0, 0, 0, .int 0, [], [])), (34, (.aload_n 0, 35, 0, 0, 0, .null, [], [])), (35, (.getfield 21, 38, 0, 3, 2, .null, [], [])), (38, (.arraylength, 39, 0, 0, 0, .null, [], [])), (39, (.invokestatic 31, 42, 0, 0, 0, .double 0, [], [])), (42, (.return_, 43, 0, 0, 0, .null, [], []))])]
def zc_Book_copyFrom : zCd := zFd zl_Book_copyFrom
def zl_Book_stampsOf : List (Nat × List (Nat × zEnt)) := [(10, [(0, (.iconst 0, 1, 0, 0, 0, .int 0, [], [])), (1, (.istore_n 2, 2, 2, 0, 0, .null, [], [])), (2, (.iconst 0, 3, 0, 0, 0, .int 0, [], [])), (3, (.istore_n 3, 4, 3, 0, 0, .null, [], [])), (4, (.iload_n 3, 5, 3, 0, 0, .null, [], [])), (5, (.bipush 16, 7, 0, 0, 0, .int 16, [], [])), (7, (.if_icmp .ge 23, 10, 30, 0, 0, .null, [], [])), (10, (.aload_n 0, 11, 0, 0, 0, .null, [], []))]),
  (27, [(11, (.iload_n 3, 12, 3, 0, 0, .null, [], [])), (12, (.iload_n 1, 13, 1, 0, 0, .null, [], [])), (13, (.invokevirtual 37, 16, 7, 3, 0, .ref 0, [], [])), (16, (.bipush (-4), 18, 0, 0, 0, .int (-4), [], [])), (18, (.if_icmp .eq 6, 21, 24, 0, 0, .null, [], [])), (21, (.iinc 2 1, 24, 2, 0, 0, .int 1, [], [])), (24, (.iinc 3 1, 27, 3, 0, 0, .int 1, [], [])), (27, (.goto (-23), 30, 4, 0, 0, .null, [], []))]),
  (31, [(30, (.iload_n 2, 31, 2, 0, 0, .null, [], [])), (31, (.ireturn, 32, 0, 0, 0, .null, [], []))])]
def zc_Book_stampsOf : zCd := zFd zl_Book_stampsOf
def zl_Book_allStamps : List (Nat × List (Nat × zEnt)) := [(9, [(0, (.iconst 0, 1, 0, 0, 0, .int 0, [], [])), (1, (.istore_n 1, 2, 1, 0, 0, .null, [], [])), (2, (.iconst 0, 3, 0, 0, 0, .int 0, [], [])), (3, (.istore_n 2, 4, 2, 0, 0, .null, [], [])), (4, (.iload_n 2, 5, 2, 0, 0, .null, [], [])), (5, (.aload_n 0, 6, 0, 0, 0, .null, [], [])), (6, (.getfield 9, 9, 0, 0, 0, .null, [], [])), (9, (.if_icmp .ge 17, 12, 26, 0, 0, .null, [], []))]),
  (23, [(12, (.iload_n 1, 13, 1, 0, 0, .null, [], [])), (13, (.aload_n 0, 14, 0, 0, 0, .null, [], [])), (14, (.iload_n 2, 15, 2, 0, 0, .null, [], [])), (15, (.invokevirtual 41, 18, 11, 2, 0, .ref 0, [], [])), (18, (.iadd, 19, 0, 0, 0, .null, [], [])), (19, (.istore_n 1, 20, 1, 0, 0, .null, [], [])), (20, (.iinc 2 1, 23, 2, 0, 0, .int 1, [], [])), (23, (.goto (-19), 26, 4, 0, 0, .null, [], []))]),
  (27, [(26, (.iload_n 1, 27, 1, 0, 0, .null, [], [])), (27, (.ireturn, 28, 0, 0, 0, .null, [], []))])]
def zc_Book_allStamps : zCd := zFd zl_Book_allStamps
def zl_Book_unheardBeacons : List (Nat × List (Nat × zEnt)) := [(10, [(0, (.iconst 0, 1, 0, 0, 0, .int 0, [], [])), (1, (.istore_n 1, 2, 1, 0, 0, .null, [], [])), (2, (.iconst 0, 3, 0, 0, 0, .int 0, [], [])), (3, (.istore_n 2, 4, 2, 0, 0, .null, [], [])), (4, (.iload_n 2, 5, 2, 0, 0, .null, [], [])), (5, (.bipush 16, 7, 0, 0, 0, .int 16, [], [])), (7, (.if_icmp .ge 20, 10, 27, 0, 0, .null, [], [])), (10, (.aload_n 0, 11, 0, 0, 0, .null, [], []))]),
  (28, [(11, (.iload_n 2, 12, 2, 0, 0, .null, [], [])), (12, (.invokevirtual 45, 15, 14, 2, 0, .ref 0, [], [])), (15, (.ifCond .ne 6, 18, 21, 0, 0, .null, [], [])), (18, (.iinc 1 1, 21, 1, 0, 0, .int 1, [], [])), (21, (.iinc 2 1, 24, 2, 0, 0, .int 1, [], [])), (24, (.goto (-20), 27, 4, 0, 0, .null, [], [])), (27, (.iload_n 1, 28, 1, 0, 0, .null, [], [])), (28, (.ireturn, 29, 0, 0, 0, .null, [], []))])]
def zc_Book_unheardBeacons : zCd := zFd zl_Book_unheardBeacons
def zl_Book_isHeard : List (Nat × List (Nat × zEnt)) := [(11, [(0, (.iconst 0, 1, 0, 0, 0, .int 0, [], [])), (1, (.istore_n 2, 2, 2, 0, 0, .null, [], [])), (2, (.iload_n 2, 3, 2, 0, 0, .null, [], [])), (3, (.aload_n 0, 4, 0, 0, 0, .null, [], [])), (4, (.getfield 9, 7, 0, 0, 0, .null, [], [])), (7, (.if_icmp .ge 22, 10, 29, 0, 0, .null, [], [])), (10, (.aload_n 0, 11, 0, 0, 0, .null, [], [])), (11, (.iload_n 1, 12, 1, 0, 0, .null, [], []))]),
  (26, [(12, (.iload_n 2, 13, 2, 0, 0, .null, [], [])), (13, (.invokevirtual 37, 16, 7, 3, 0, .ref 0, [], [])), (16, (.bipush (-4), 18, 0, 0, 0, .int (-4), [], [])), (18, (.if_icmp .eq 5, 21, 23, 0, 0, .null, [], [])), (21, (.iconst 1, 22, 0, 0, 0, .int 1, [], [])), (22, (.ireturn, 23, 0, 0, 3, .null, [], [])), (23, (.iinc 2 1, 26, 2, 0, 0, .int 1, [], [])), (26, (.goto (-24), 29, 2, 0, 0, .null, [], []))]),
  (30, [(29, (.iconst 0, 30, 0, 0, 0, .int 0, [], [])), (30, (.ireturn, 31, 0, 0, 3, .null, [], []))])]
def zc_Book_isHeard : zCd := zFd zl_Book_isHeard
def zl_Book_heardByBoth : List (Nat × List (Nat × zEnt)) := [(12, [(0, (.iconst 0, 1, 0, 0, 0, .int 0, [], [])), (1, (.istore_n 3, 2, 3, 0, 0, .null, [], [])), (2, (.iconst 0, 3, 0, 0, 0, .int 0, [], [])), (3, (.istore 4, 5, 4, 0, 0, .null, [], [])), (5, (.iload 4, 7, 4, 0, 0, .null, [], [])), (7, (.bipush 16, 9, 0, 0, 0, .int 16, [], [])), (9, (.if_icmp .ge 40, 12, 49, 0, 0, .null, [], [])), (12, (.aload_n 0, 13, 0, 0, 0, .null, [], []))]),
  (27, [(13, (.iload 4, 15, 4, 0, 0, .null, [], [])), (15, (.iload_n 1, 16, 1, 0, 0, .null, [], [])), (16, (.invokevirtual 37, 19, 7, 3, 0, .ref 0, [], [])), (19, (.bipush (-4), 21, 0, 0, 0, .int (-4), [], [])), (21, (.if_icmp .eq 22, 24, 43, 0, 0, .null, [], [])), (24, (.aload_n 0, 25, 0, 0, 0, .null, [], [])), (25, (.iload 4, 27, 4, 0, 0, .null, [], [])), (27, (.iload_n 2, 28, 2, 0, 0, .null, [], []))]),
  (41, [(28, (.invokevirtual 37, 31, 7, 3, 0, .ref 0, [], [])), (31, (.bipush (-4), 33, 0, 0, 0, .int (-4), [], [])), (33, (.if_icmp .eq 10, 36, 43, 0, 0, .null, [], [])), (36, (.iload_n 3, 37, 3, 0, 0, .null, [], [])), (37, (.iconst 1, 38, 0, 0, 0, .int 1, [], [])), (38, (.iload 4, 40, 4, 0, 0, .null, [], [])), (40, (.ishl, 41, 0, 0, 0, .null, [], [])), (41, (.ior, 42, 0, 0, 0, .null, [], []))]),
  (50, [(42, (.istore_n 3, 43, 3, 0, 0, .null, [], [])), (43, (.iinc 4 1, 46, 4, 0, 0, .int 1, [], [])), (46, (.goto (-41), 49, 5, 0, 0, .null, [], [])), (49, (.iload_n 3, 50, 3, 0, 0, .null, [], [])), (50, (.ireturn, 51, 0, 0, 0, .null, [], []))])]
def zc_Book_heardByBoth : zCd := zFd zl_Book_heardByBoth
def zl_Book_canMove : List (Nat × List (Nat × zEnt)) := [(10, [(0, (.iconst 0, 1, 0, 0, 0, .int 0, [], [])), (1, (.istore_n 3, 2, 3, 0, 0, .null, [], [])), (2, (.iload_n 3, 3, 3, 0, 0, .null, [4], [])), (3, (.bipush 16, 5, 0, 0, 0, .int 16, [], [])), (5, (.if_icmp .ge 43, 8, 48, 0, 0, .null, [], [])), (8, (.aload_n 0, 9, 0, 0, 0, .null, [], [])), (9, (.iload_n 3, 10, 3, 0, 0, .null, [], [])), (10, (.iload_n 1, 11, 1, 0, 0, .null, [], []))]),
  (26, [(11, (.invokevirtual 37, 14, 7, 3, 0, .ref 0, [], [])), (14, (.istore 4, 16, 4, 0, 0, .null, [], [])), (16, (.iload 4, 18, 4, 0, 0, .null, [], [])), (18, (.bipush (-4), 20, 0, 0, 0, .int (-4), [], [])), (20, (.if_icmp .eq 22, 23, 42, 0, 0, .null, [], [])), (23, (.iload 4, 25, 4, 0, 0, .null, [], [])), (25, (.iload_n 2, 26, 2, 0, 0, .null, [], [])), (26, (.iadd, 27, 0, 0, 0, .null, [], []))]),
  (41, [(27, (.ifCond .lt 13, 30, 40, 0, 0, .null, [], [])), (30, (.iload 4, 32, 4, 0, 0, .null, [], [])), (32, (.iload_n 2, 33, 2, 0, 0, .null, [], [])), (33, (.iadd, 34, 0, 0, 0, .null, [], [])), (34, (.sipush 9999, 37, 0, 0, 0, .int 9999, [], [])), (37, (.if_icmp .le 5, 40, 42, 0, 0, .null, [], [])), (40, (.iconst 0, 41, 0, 0, 0, .int 0, [], [])), (41, (.ireturn, 42, 0, 0, 3, .null, [], []))]),
  (49, [(42, (.iinc 3 1, 45, 3, 0, 0, .int 1, [], [])), (45, (.goto (-43), 48, 2, 0, 0, .null, [], [])), (48, (.iconst 1, 49, 0, 0, 0, .int 1, [], [])), (49, (.ireturn, 50, 0, 0, 3, .null, [], []))])]
def zc_Book_canMove : zCd := zFd zl_Book_canMove
def zl_Book_moveStamps : List (Nat × List (Nat × zEnt)) := [(12, [(0, (.iconst 0, 1, 0, 0, 0, .int 0, [], [])), (1, (.istore_n 3, 2, 3, 0, 0, .null, [], [])), (2, (.iconst 0, 3, 0, 0, 0, .int 0, [], [])), (3, (.istore 4, 5, 4, 0, 0, .null, [], [])), (5, (.iload 4, 7, 4, 0, 0, .null, [5], [])), (7, (.bipush 16, 9, 0, 0, 0, .int 16, [], [])), (9, (.if_icmp .ge 39, 12, 48, 0, 0, .null, [], [])), (12, (.aload_n 0, 13, 0, 0, 0, .null, [], []))]),
  (28, [(13, (.iload 4, 15, 4, 0, 0, .null, [], [])), (15, (.iload_n 1, 16, 1, 0, 0, .null, [], [])), (16, (.invokevirtual 37, 19, 7, 3, 0, .ref 0, [], [])), (19, (.istore 5, 21, 5, 0, 0, .null, [], [])), (21, (.iload 5, 23, 5, 0, 0, .null, [], [])), (23, (.bipush (-4), 25, 0, 0, 0, .int (-4), [], [])), (25, (.if_icmp .eq 17, 28, 42, 0, 0, .null, [], [])), (28, (.aload_n 0, 29, 0, 0, 0, .null, [], []))]),
  (42, [(29, (.iload 4, 31, 4, 0, 0, .null, [], [])), (31, (.iload_n 1, 32, 1, 0, 0, .null, [], [])), (32, (.iload 5, 34, 5, 0, 0, .null, [], [])), (34, (.iload_n 2, 35, 2, 0, 0, .null, [], [])), (35, (.iadd, 36, 0, 0, 0, .null, [], [])), (36, (.invokevirtual 49, 39, 8, 4, 9, .ref 0, [], [])), (39, (.iinc 3 1, 42, 3, 0, 0, .int 1, [], [])), (42, (.iinc 4 1, 45, 4, 0, 0, .int 1, [], []))]),
  (49, [(45, (.goto (-40), 48, 5, 0, 0, .null, [], [])), (48, (.iload_n 3, 49, 3, 0, 0, .null, [], [])), (49, (.ireturn, 50, 0, 0, 0, .null, [], []))])]
def zc_Book_moveStamps : zCd := zFd zl_Book_moveStamps
def zl_Chains_init : List (Nat × List (Nat × zEnt)) := [(13, [(0, (.aload_n 0, 1, 0, 0, 0, .null, [], [])), (1, (.invokespecial 3, 4, 0, 0, 0, .double 0, [], [])), (4, (.aload_n 0, 5, 0, 0, 0, .null, [], [])), (5, (.bipush 49, 7, 0, 0, 0, .int 49, [], [])), (7, (.newarray .int, 9, 0, 0, 0, .null, [], [])), (9, (.putfield 9, 12, 1, 2, 2, .null, [], [])), (12, (.aload_n 0, 13, 0, 0, 0, .null, [], [])), (13, (.bipush 7, 15, 0, 0, 0, .int 7, [], []))]),
  (20, [(15, (.newarray .int, 17, 0, 0, 0, .null, [], [])), (17, (.putfield 15, 20, 1, 3, 2, .null, [], [])), (20, (.return_, 21, 0, 0, 0, .null, [], [1]))])]
def zc_Chains_init : zCd := zFd zl_Chains_init
def zl_Chains_renew : List (Nat × List (Nat × zEnt)) := [(13, [(0, (.aload_n 0, 1, 0, 0, 0, .null, [], [])), (1, (.aload_n 1, 2, 1, 0, 0, .null, [], [])), (2, (.getfield 18, 5, 8, 0, 2, .null, [], [])), (5, (.getfield 24, 8, 0, 0, 0, .null, [], [])), (8, (.putfield 30, 11, 1, 0, 0, .null, [], [])), (11, (.iconst 0, 12, 0, 0, 0, .int 0, [], [])), (12, (.istore_n 2, 13, 2, 0, 0, .null, [], [])), (13, (.iload_n 2, 14, 2, 0, 0, .null, [3, 4], []))]),
  (25, [(14, (.aload_n 0, 15, 0, 0, 0, .null, [], [])), (15, (.getfield 30, 18, 1, 0, 0, .null, [], [])), (18, (.if_icmp .ge 67, 21, 85, 0, 0, .null, [], [])), (21, (.iconst 0, 22, 0, 0, 0, .int 0, [], [])), (22, (.istore_n 3, 23, 3, 0, 0, .null, [], [])), (23, (.iload_n 3, 24, 3, 0, 0, .null, [4], [])), (24, (.aload_n 0, 25, 0, 0, 0, .null, [], [])), (25, (.getfield 30, 28, 1, 0, 0, .null, [], []))]),
  (41, [(28, (.if_icmp .ge 51, 31, 79, 0, 0, .null, [], [])), (31, (.iload_n 2, 32, 2, 0, 0, .null, [], [])), (32, (.iload_n 3, 33, 3, 0, 0, .null, [], [])), (33, (.if_icmp .eq 7, 36, 40, 0, 0, .null, [], [])), (36, (.iconst 1, 37, 0, 0, 0, .int 1, [], [])), (37, (.goto 4, 40, 41, 0, 0, .null, [], [])), (40, (.iconst 0, 41, 0, 0, 0, .int 0, [], [])), (41, (.istore 4, 43, 4, 0, 0, .null, [4], []))]),
  (53, [(43, (.aload_n 0, 44, 0, 0, 0, .null, [], [])), (44, (.getfield 9, 47, 1, 2, 2, .null, [], [])), (47, (.iload_n 2, 48, 2, 0, 0, .null, [], [])), (48, (.bipush 7, 50, 0, 0, 0, .int 7, [], [])), (50, (.imul, 51, 0, 0, 0, .null, [], [])), (51, (.iload_n 3, 52, 3, 0, 0, .null, [], [])), (52, (.iadd, 53, 0, 0, 0, .null, [], [])), (53, (.iload 4, 55, 4, 0, 0, .null, [], []))]),
  (70, [(55, (.ifCond .eq 15, 58, 70, 0, 0, .null, [], [])), (58, (.aload_n 1, 59, 1, 0, 0, .null, [], [])), (59, (.iload_n 2, 60, 2, 0, 0, .null, [], [])), (60, (.iload_n 3, 61, 3, 0, 0, .null, [], [])), (61, (.invokevirtual 31, 64, 81, 3, 2, .ref 8, [], [])), (64, (.invokestatic 35, 67, 20, 1, 0, .null, [], [])), (67, (.goto 5, 70, 72, 0, 0, .null, [], [])), (70, (.bipush (-4), 72, 0, 0, 0, .int (-4), [], []))]),
  (85, [(72, (.iastore, 73, 0, 0, 0, .null, [], [])), (73, (.iinc 3 1, 76, 3, 0, 0, .int 1, [], [])), (76, (.goto (-53), 79, 23, 0, 0, .null, [], [])), (79, (.iinc 2 1, 82, 2, 0, 0, .int 1, [], [])), (82, (.goto (-69), 85, 13, 0, 0, .null, [], [])), (85, (.return_, 86, 0, 0, 0, .null, [], []))])]
def zc_Chains_renew : zCd := zFd zl_Chains_renew
def zl_Chains_weightOf : List (Nat × List (Nat × zEnt)) := [(13, [(0, (.aload_n 0, 1, 0, 0, 0, .null, [], [])), (1, (.getfield 39, 4, 3, 1, 0, .null, [], [])), (4, (.iconst 2, 5, 0, 0, 0, .int 2, [], [])), (5, (.if_icmp .ne 14, 8, 19, 0, 0, .null, [], [])), (8, (.aload_n 0, 9, 0, 0, 0, .null, [], [])), (9, (.invokevirtual 44, 12, 44, 1, 0, .ref 3, [], [])), (12, (.iconst 3, 13, 0, 0, 0, .int 3, [], [])), (13, (.ishl, 14, 0, 0, 0, .null, [], []))]),
  (21, [(14, (.iconst 1, 15, 0, 0, 0, .int 1, [], [])), (15, (.iadd, 16, 0, 0, 0, .null, [], [])), (16, (.goto 5, 19, 21, 0, 0, .null, [], [])), (19, (.bipush (-4), 21, 0, 0, 0, .int (-4), [], [])), (21, (.ireturn, 22, 0, 0, 0, .null, [], []))])]
def zc_Chains_weightOf : zCd := zFd zl_Chains_weightOf
def zl_Chains_reachingPairs : List (Nat × List (Nat × zEnt)) := [(9, [(0, (.iconst 0, 1, 0, 0, 0, .int 0, [], [])), (1, (.istore_n 1, 2, 1, 0, 0, .null, [], [])), (2, (.iconst 0, 3, 0, 0, 0, .int 0, [], [])), (3, (.istore_n 2, 4, 2, 0, 0, .null, [], [])), (4, (.iload_n 2, 5, 2, 0, 0, .null, [3], [])), (5, (.aload_n 0, 6, 0, 0, 0, .null, [], [])), (6, (.getfield 30, 9, 1, 0, 0, .null, [], [])), (9, (.if_icmp .ge 46, 12, 55, 0, 0, .null, [], []))]),
  (21, [(12, (.aload_n 0, 13, 0, 0, 0, .null, [], [])), (13, (.iload_n 2, 14, 2, 0, 0, .null, [], [])), (14, (.invokevirtual 48, 17, 24, 2, 9, .ref 1, [], [])), (17, (.iconst 0, 18, 0, 0, 0, .int 0, [], [])), (18, (.istore_n 3, 19, 3, 0, 0, .null, [], [])), (19, (.iload_n 3, 20, 3, 0, 0, .null, [], [])), (20, (.aload_n 0, 21, 0, 0, 0, .null, [], [])), (21, (.getfield 30, 24, 1, 0, 0, .null, [], []))]),
  (37, [(24, (.if_icmp .ge 25, 27, 49, 0, 0, .null, [], [])), (27, (.iload_n 3, 28, 3, 0, 0, .null, [], [])), (28, (.iload_n 2, 29, 2, 0, 0, .null, [], [])), (29, (.if_icmp .eq 14, 32, 43, 0, 0, .null, [], [])), (32, (.aload_n 0, 33, 0, 0, 0, .null, [], [])), (33, (.iload_n 3, 34, 3, 0, 0, .null, [], [])), (34, (.invokevirtual 52, 37, 27, 2, 0, .ref 1, [], [])), (37, (.ifCond .eq 6, 40, 43, 0, 0, .null, [], []))]),
  (56, [(40, (.iinc 1 1, 43, 1, 0, 0, .int 1, [], [])), (43, (.iinc 3 1, 46, 3, 0, 0, .int 1, [], [])), (46, (.goto (-27), 49, 19, 0, 0, .null, [], [])), (49, (.iinc 2 1, 52, 2, 0, 0, .int 1, [], [])), (52, (.goto (-48), 55, 4, 0, 0, .null, [], [])), (55, (.iload_n 1, 56, 1, 0, 0, .null, [], [])), (56, (.ireturn, 57, 0, 0, 0, .null, [], []))])]
def zc_Chains_reachingPairs : zCd := zFd zl_Chains_reachingPairs
def zl_Chains_reachedFrom : List (Nat × List (Nat × zEnt)) := [(9, [(0, (.iconst 0, 1, 0, 0, 0, .int 0, [], [])), (1, (.istore_n 2, 2, 2, 0, 0, .null, [], [])), (2, (.iconst 0, 3, 0, 0, 0, .int 0, [], [])), (3, (.istore_n 3, 4, 3, 0, 0, .null, [], [])), (4, (.iload_n 3, 5, 3, 0, 0, .null, [], [])), (5, (.aload_n 0, 6, 0, 0, 0, .null, [], [])), (6, (.getfield 30, 9, 1, 0, 0, .null, [], [])), (9, (.if_icmp .ge 21, 12, 30, 0, 0, .null, [], []))]),
  (27, [(12, (.aload_n 0, 13, 0, 0, 0, .null, [], [])), (13, (.iload_n 1, 14, 1, 0, 0, .null, [], [])), (14, (.iload_n 3, 15, 3, 0, 0, .null, [], [])), (15, (.invokevirtual 56, 18, 23, 3, 0, .ref 1, [], [])), (18, (.ifCond .eq 6, 21, 24, 0, 0, .null, [], [])), (21, (.iinc 2 1, 24, 2, 0, 0, .int 1, [], [])), (24, (.iinc 3 1, 27, 3, 0, 0, .int 1, [], [])), (27, (.goto (-23), 30, 4, 0, 0, .null, [], []))]),
  (31, [(30, (.iload_n 2, 31, 2, 0, 0, .null, [], [])), (31, (.ireturn, 32, 0, 0, 0, .null, [], []))])]
def zc_Chains_reachedFrom : zCd := zFd zl_Chains_reachedFrom
def zl_Chains_reaches : List (Nat × List (Nat × zEnt)) := [(10, [(0, (.aload_n 0, 1, 0, 0, 0, .null, [], [])), (1, (.iload_n 2, 2, 2, 0, 0, .null, [], [])), (2, (.invokevirtual 48, 5, 24, 2, 9, .ref 1, [], [])), (5, (.aload_n 0, 6, 0, 0, 0, .null, [], [])), (6, (.iload_n 1, 7, 1, 0, 0, .null, [], [])), (7, (.invokevirtual 52, 10, 27, 2, 0, .ref 1, [], [])), (10, (.ireturn, 11, 0, 0, 3, .null, [], []))])]
def zc_Chains_reaches : zCd := zFd zl_Chains_reaches
def zl_Chains_aimAt : List (Nat × List (Nat × zEnt)) := [(14, [(0, (.aload_n 0, 1, 0, 0, 0, .null, [], [])), (1, (.iload_n 1, 2, 1, 0, 0, .null, [], [])), (2, (.putfield 60, 5, 1, 1, 0, .null, [], [])), (5, (.aload_n 0, 6, 0, 0, 0, .null, [], [])), (6, (.getfield 15, 9, 1, 3, 2, .null, [], [])), (9, (.bipush (-4), 11, 0, 0, 0, .int (-4), [], [])), (11, (.invokestatic 63, 14, 4, 2, 9, .null, [], [])), (14, (.aload_n 0, 15, 0, 0, 0, .null, [], []))]),
  (24, [(15, (.getfield 15, 18, 1, 3, 2, .null, [], [])), (18, (.iload_n 1, 19, 1, 0, 0, .null, [], [])), (19, (.iconst 0, 20, 0, 0, 0, .int 0, [], [])), (20, (.iastore, 21, 0, 0, 0, .null, [], [])), (21, (.iconst 1, 22, 0, 0, 0, .int 1, [], [])), (22, (.istore_n 2, 23, 2, 0, 0, .null, [], [])), (23, (.iconst 0, 24, 0, 0, 0, .int 0, [], [])), (24, (.istore_n 3, 25, 3, 0, 0, .null, [], []))]),
  (37, [(25, (.iload_n 2, 26, 2, 0, 0, .null, [1, 4], [])), (26, (.ifCond .eq 46, 29, 72, 0, 0, .null, [], [])), (29, (.iload_n 3, 30, 3, 0, 0, .null, [], [])), (30, (.bipush 7, 32, 0, 0, 0, .int 7, [], [])), (32, (.if_icmp .ge 40, 35, 72, 0, 0, .null, [], [])), (35, (.iconst 0, 36, 0, 0, 0, .int 0, [], [])), (36, (.istore_n 2, 37, 2, 0, 0, .null, [], [])), (37, (.iconst 0, 38, 0, 0, 0, .int 0, [], []))]),
  (52, [(38, (.istore 4, 40, 4, 0, 0, .null, [], [])), (40, (.iload 4, 42, 4, 0, 0, .null, [1], [])), (42, (.aload_n 0, 43, 0, 0, 0, .null, [], [])), (43, (.getfield 30, 46, 1, 0, 0, .null, [], [])), (46, (.if_icmp .ge 20, 49, 66, 0, 0, .null, [], [])), (49, (.aload_n 0, 50, 0, 0, 0, .null, [], [])), (50, (.iload 4, 52, 4, 0, 0, .null, [], [])), (52, (.invokevirtual 69, 55, 25, 2, 0, .ref 1, [], []))]),
  (72, [(55, (.ifCond .eq 5, 58, 60, 0, 0, .null, [], [])), (58, (.iconst 1, 59, 0, 0, 0, .int 1, [], [])), (59, (.istore_n 2, 60, 2, 0, 0, .null, [], [])), (60, (.iinc 4 1, 63, 4, 0, 0, .int 1, [], [])), (63, (.goto (-23), 66, 40, 0, 0, .null, [], [])), (66, (.iinc 3 1, 69, 3, 0, 0, .int 1, [], [])), (69, (.goto (-44), 72, 25, 0, 0, .null, [], [])), (72, (.return_, 73, 0, 0, 0, .null, [], []))])]
def zc_Chains_aimAt : zCd := zFd zl_Chains_aimAt
def zl_Chains_improve : List (Nat × List (Nat × zEnt)) := [(9, [(0, (.iconst 0, 1, 0, 0, 0, .int 0, [], [])), (1, (.istore_n 2, 2, 2, 0, 0, .null, [], [])), (2, (.iconst 0, 3, 0, 0, 0, .int 0, [], [])), (3, (.istore_n 3, 4, 3, 0, 0, .null, [], [])), (4, (.iload_n 3, 5, 3, 0, 0, .null, [4], [])), (5, (.aload_n 0, 6, 0, 0, 0, .null, [], [])), (6, (.getfield 30, 9, 1, 0, 0, .null, [], [])), (9, (.if_icmp .ge 56, 12, 65, 0, 0, .null, [], []))]),
  (24, [(12, (.aload_n 0, 13, 0, 0, 0, .null, [], [])), (13, (.iload_n 1, 14, 1, 0, 0, .null, [], [])), (14, (.iload_n 3, 15, 3, 0, 0, .null, [], [])), (15, (.invokevirtual 72, 18, 26, 3, 0, .ref 1, [], [])), (18, (.istore 4, 20, 4, 0, 0, .null, [], [])), (20, (.iload 4, 22, 4, 0, 0, .null, [], [])), (22, (.bipush (-4), 24, 0, 0, 0, .int (-4), [], [])), (24, (.if_icmp .eq 35, 27, 59, 0, 0, .null, [], []))]),
  (40, [(27, (.aload_n 0, 28, 0, 0, 0, .null, [], [])), (28, (.getfield 15, 31, 1, 3, 2, .null, [], [])), (31, (.iload_n 1, 32, 1, 0, 0, .null, [], [])), (32, (.iaload, 33, 0, 0, 0, .null, [], [])), (33, (.bipush (-4), 35, 0, 0, 0, .int (-4), [], [])), (35, (.if_icmp .eq 14, 38, 49, 0, 0, .null, [], [])), (38, (.iload 4, 40, 4, 0, 0, .null, [], [])), (40, (.aload_n 0, 41, 0, 0, 0, .null, [], []))]),
  (54, [(41, (.getfield 15, 44, 1, 3, 2, .null, [], [])), (44, (.iload_n 1, 45, 1, 0, 0, .null, [], [])), (45, (.iaload, 46, 0, 0, 0, .null, [], [])), (46, (.if_icmp .ge 13, 49, 59, 0, 0, .null, [], [])), (49, (.aload_n 0, 50, 0, 0, 0, .null, [], [])), (50, (.getfield 15, 53, 1, 3, 2, .null, [], [])), (53, (.iload_n 1, 54, 1, 0, 0, .null, [], [])), (54, (.iload 4, 56, 4, 0, 0, .null, [], []))]),
  (66, [(56, (.iastore, 57, 0, 0, 0, .null, [], [])), (57, (.iconst 1, 58, 0, 0, 0, .int 1, [], [])), (58, (.istore_n 2, 59, 2, 0, 0, .null, [], [])), (59, (.iinc 3 1, 62, 3, 0, 0, .int 1, [], [])), (62, (.goto (-58), 65, 4, 0, 0, .null, [], [])), (65, (.iload_n 2, 66, 2, 0, 0, .null, [], [])), (66, (.ireturn, 67, 0, 0, 3, .null, [], []))])]
def zc_Chains_improve : zCd := zFd zl_Chains_improve
def zl_Chains_weightBy : List (Nat × List (Nat × zEnt)) := [(10, [(0, (.aload_n 0, 1, 0, 0, 0, .null, [], [])), (1, (.getfield 9, 4, 1, 2, 2, .null, [], [])), (4, (.iload_n 1, 5, 1, 0, 0, .null, [], [])), (5, (.bipush 7, 7, 0, 0, 0, .int 7, [], [])), (7, (.imul, 8, 0, 0, 0, .null, [], [])), (8, (.iload_n 2, 9, 2, 0, 0, .null, [], [])), (9, (.iadd, 10, 0, 0, 0, .null, [], [])), (10, (.iaload, 11, 0, 0, 0, .null, [], []))]),
  (23, [(11, (.istore_n 3, 12, 3, 0, 0, .null, [], [])), (12, (.iload_n 3, 13, 3, 0, 0, .null, [], [])), (13, (.bipush (-4), 15, 0, 0, 0, .int (-4), [], [])), (15, (.if_icmp .eq 14, 18, 29, 0, 0, .null, [], [])), (18, (.aload_n 0, 19, 0, 0, 0, .null, [], [])), (19, (.getfield 15, 22, 1, 3, 2, .null, [], [])), (22, (.iload_n 2, 23, 2, 0, 0, .null, [], [])), (23, (.iaload, 24, 0, 0, 0, .null, [], []))]),
  (39, [(24, (.bipush (-4), 26, 0, 0, 0, .int (-4), [], [])), (26, (.if_icmp .ne 8, 29, 34, 0, 0, .null, [], [])), (29, (.bipush (-4), 31, 0, 0, 0, .int (-4), [], [])), (31, (.goto 11, 34, 42, 0, 0, .null, [], [])), (34, (.iload_n 3, 35, 3, 0, 0, .null, [], [])), (35, (.aload_n 0, 36, 0, 0, 0, .null, [], [])), (36, (.getfield 15, 39, 1, 3, 2, .null, [], [])), (39, (.iload_n 2, 40, 2, 0, 0, .null, [], []))]),
  (42, [(40, (.iaload, 41, 0, 0, 0, .null, [], [])), (41, (.iadd, 42, 0, 0, 0, .null, [], [])), (42, (.ireturn, 43, 0, 0, 0, .null, [], []))])]
def zc_Chains_weightBy : zCd := zFd zl_Chains_weightBy
def zl_Chains_reachesAim : List (Nat × List (Nat × zEnt)) := [(12, [(0, (.aload_n 0, 1, 0, 0, 0, .null, [], [])), (1, (.getfield 15, 4, 1, 3, 2, .null, [], [])), (4, (.iload_n 1, 5, 1, 0, 0, .null, [], [])), (5, (.iaload, 6, 0, 0, 0, .null, [], [])), (6, (.bipush (-4), 8, 0, 0, 0, .int (-4), [], [])), (8, (.if_icmp .eq 7, 11, 15, 0, 0, .null, [], [])), (11, (.iconst 1, 12, 0, 0, 0, .int 1, [], [])), (12, (.goto 4, 15, 16, 0, 0, .null, [], []))]),
  (16, [(15, (.iconst 0, 16, 0, 0, 0, .int 0, [], [])), (16, (.ireturn, 17, 0, 0, 3, .null, [], []))])]
def zc_Chains_reachesAim : zCd := zFd zl_Chains_reachesAim
def zl_Chains_costToAim : List (Nat × List (Nat × zEnt)) := [(8, [(0, (.aload_n 0, 1, 0, 0, 0, .null, [], [])), (1, (.getfield 15, 4, 1, 3, 2, .null, [], [])), (4, (.iload_n 1, 5, 1, 0, 0, .null, [], [])), (5, (.iaload, 6, 0, 0, 0, .null, [], [])), (6, (.iconst 3, 7, 0, 0, 0, .int 3, [], [])), (7, (.ishr, 8, 0, 0, 0, .null, [], [])), (8, (.ireturn, 9, 0, 0, 0, .null, [], []))])]
def zc_Chains_costToAim : zCd := zFd zl_Chains_costToAim
def zl_Chains_hopsToAim : List (Nat × List (Nat × zEnt)) := [(9, [(0, (.aload_n 0, 1, 0, 0, 0, .null, [], [])), (1, (.getfield 15, 4, 1, 3, 2, .null, [], [])), (4, (.iload_n 1, 5, 1, 0, 0, .null, [], [])), (5, (.iaload, 6, 0, 0, 0, .null, [], [])), (6, (.bipush 7, 8, 0, 0, 0, .int 7, [], [])), (8, (.iand, 9, 0, 0, 0, .null, [], [])), (9, (.ireturn, 10, 0, 0, 0, .null, [], []))])]
def zc_Chains_hopsToAim : zCd := zFd zl_Chains_hopsToAim
def zl_Chains_nextToAim : List (Nat × List (Nat × zEnt)) := [(11, [(0, (.iconst 0, 1, 0, 0, 0, .int 0, [], [])), (1, (.istore_n 2, 2, 2, 0, 0, .null, [], [])), (2, (.iload_n 2, 3, 2, 0, 0, .null, [], [])), (3, (.aload_n 0, 4, 0, 0, 0, .null, [], [])), (4, (.getfield 30, 7, 1, 0, 0, .null, [], [])), (7, (.if_icmp .ge 26, 10, 33, 0, 0, .null, [], [])), (10, (.aload_n 0, 11, 0, 0, 0, .null, [], [])), (11, (.iload_n 1, 12, 1, 0, 0, .null, [], []))]),
  (25, [(12, (.iload_n 2, 13, 2, 0, 0, .null, [], [])), (13, (.invokevirtual 72, 16, 26, 3, 0, .ref 1, [], [])), (16, (.aload_n 0, 17, 0, 0, 0, .null, [], [])), (17, (.getfield 15, 20, 1, 3, 2, .null, [], [])), (20, (.iload_n 1, 21, 1, 0, 0, .null, [], [])), (21, (.iaload, 22, 0, 0, 0, .null, [], [])), (22, (.if_icmp .ne 5, 25, 27, 0, 0, .null, [], [])), (25, (.iload_n 2, 26, 2, 0, 0, .null, [], []))]),
  (37, [(26, (.ireturn, 27, 0, 0, 0, .null, [], [])), (27, (.iinc 2 1, 30, 2, 0, 0, .int 1, [], [])), (30, (.goto (-28), 33, 2, 0, 0, .null, [], [])), (33, (.aload_n 0, 34, 0, 0, 0, .null, [], [])), (34, (.getfield 60, 37, 1, 1, 0, .null, [], [])), (37, (.ireturn, 38, 0, 0, 0, .null, [], []))])]
def zc_Chains_nextToAim : zCd := zFd zl_Chains_nextToAim
def zl_Drawer_init : List (Nat × List (Nat × zEnt)) := [(13, [(0, (.aload_n 0, 1, 0, 0, 0, .null, [], [])), (1, (.invokespecial 3, 4, 0, 0, 0, .double 0, [], [])), (4, (.aload_n 0, 5, 0, 0, 0, .null, [], [])), (5, (.bipush 7, 7, 0, 0, 0, .int 7, [], [])), (7, (.newarray .int, 9, 0, 0, 0, .null, [], [])), (9, (.putfield 9, 12, 2, 0, 2, .null, [], [])), (12, (.aload_n 0, 13, 0, 0, 0, .null, [], [])), (13, (.bipush 7, 15, 0, 0, 0, .int 7, [], []))]),
  (20, [(15, (.newarray .int, 17, 0, 0, 0, .null, [], [])), (17, (.putfield 15, 20, 2, 1, 2, .null, [], [])), (20, (.return_, 21, 0, 0, 0, .null, [], [1]))])]
def zc_Drawer_init : zCd := zFd zl_Drawer_init
def zl_Drawer_fill : List (Nat × List (Nat × zEnt)) := [(11, [(0, (.aload_n 0, 1, 0, 0, 0, .null, [], [])), (1, (.iload_n 2, 2, 2, 0, 0, .null, [], [])), (2, (.putfield 18, 5, 2, 2, 0, .null, [], [])), (5, (.aload_n 1, 6, 1, 0, 0, .null, [], [])), (6, (.iload_n 3, 7, 3, 0, 0, .null, [], [])), (7, (.invokevirtual 22, 10, 9, 2, 9, .ref 0, [], [])), (10, (.iconst 0, 11, 0, 0, 0, .int 0, [], [])), (11, (.istore 4, 13, 4, 0, 0, .null, [], []))]),
  (26, [(13, (.iload 4, 15, 4, 0, 0, .null, [2, 5], [])), (15, (.iload_n 3, 16, 3, 0, 0, .null, [], [])), (16, (.if_icmp .ge 37, 19, 53, 0, 0, .null, [], [])), (19, (.aload_n 0, 20, 0, 0, 0, .null, [], [])), (20, (.getfield 9, 23, 2, 0, 2, .null, [], [])), (23, (.iload 4, 25, 4, 0, 0, .null, [], [])), (25, (.aload_n 0, 26, 0, 0, 0, .null, [], [])), (26, (.invokevirtual 28, 29, 34, 1, 0, .ref 2, [], []))]),
  (41, [(29, (.sipush 500, 32, 0, 0, 0, .int 500, [], [])), (32, (.irem, 33, 0, 0, 0, .null, [], [])), (33, (.iastore, 34, 0, 0, 0, .null, [], [])), (34, (.aload_n 0, 35, 0, 0, 0, .null, [], [])), (35, (.getfield 15, 38, 2, 1, 2, .null, [], [])), (38, (.iload 4, 40, 4, 0, 0, .null, [], [])), (40, (.aload_n 0, 41, 0, 0, 0, .null, [], [])), (41, (.invokevirtual 28, 44, 34, 1, 0, .ref 2, [], []))]),
  (56, [(44, (.iconst 5, 45, 0, 0, 0, .int 5, [], [])), (45, (.irem, 46, 0, 0, 0, .null, [], [])), (46, (.iastore, 47, 0, 0, 0, .null, [], [])), (47, (.iinc 4 1, 50, 4, 0, 0, .int 1, [], [])), (50, (.goto (-37), 53, 13, 0, 0, .null, [], [])), (53, (.iconst 0, 54, 0, 0, 0, .int 0, [], [])), (54, (.istore 4, 56, 4, 0, 0, .null, [], [])), (56, (.iload 4, 58, 4, 0, 0, .null, [2, 5], []))]),
  (72, [(58, (.bipush 16, 60, 0, 0, 0, .int 16, [], [])), (60, (.if_icmp .ge 40, 63, 100, 0, 0, .null, [], [])), (63, (.iconst 0, 64, 0, 0, 0, .int 0, [], [])), (64, (.istore 5, 66, 5, 0, 0, .null, [], [])), (66, (.iload 5, 68, 5, 0, 0, .null, [2], [])), (68, (.iload_n 3, 69, 3, 0, 0, .null, [], [])), (69, (.if_icmp .ge 25, 72, 94, 0, 0, .null, [], [])), (72, (.aload_n 1, 73, 1, 0, 0, .null, [], []))]),
  (88, [(73, (.iload 4, 75, 4, 0, 0, .null, [], [])), (75, (.iload 5, 77, 5, 0, 0, .null, [], [])), (77, (.aload_n 0, 78, 0, 0, 0, .null, [], [])), (78, (.iload 4, 80, 4, 0, 0, .null, [], [])), (80, (.iload 5, 82, 5, 0, 0, .null, [], [])), (82, (.invokevirtual 32, 85, 33, 3, 0, .ref 2, [], [])), (85, (.invokevirtual 36, 88, 8, 4, 9, .ref 0, [], [])), (88, (.iinc 5 1, 91, 5, 0, 0, .int 1, [], []))]),
  (100, [(91, (.goto (-25), 94, 66, 0, 0, .null, [], [])), (94, (.iinc 4 1, 97, 4, 0, 0, .int 1, [], [])), (97, (.goto (-41), 100, 56, 0, 0, .null, [], [])), (100, (.return_, 101, 0, 0, 0, .null, [], []))])]
def zc_Drawer_fill : zCd := zFd zl_Drawer_fill
def zl_Drawer_stampBySeed : List (Nat × List (Nat × zEnt)) := [(12, [(0, (.aload_n 0, 1, 0, 0, 0, .null, [], [])), (1, (.invokevirtual 28, 4, 34, 1, 0, .ref 2, [], [])), (4, (.istore_n 3, 5, 3, 0, 0, .null, [], [])), (5, (.aload_n 0, 6, 0, 0, 0, .null, [], [])), (6, (.invokevirtual 28, 9, 34, 1, 0, .ref 2, [], [])), (9, (.istore 4, 11, 4, 0, 0, .null, [], [])), (11, (.aload_n 0, 12, 0, 0, 0, .null, [], [])), (12, (.invokevirtual 28, 15, 34, 1, 0, .ref 2, [], []))]),
  (26, [(15, (.istore 5, 17, 5, 0, 0, .null, [], [])), (17, (.iload_n 3, 18, 3, 0, 0, .null, [], [])), (18, (.iconst 4, 19, 0, 0, 0, .int 4, [], [])), (19, (.irem, 20, 0, 0, 0, .null, [], [])), (20, (.ifCond .ne 6, 23, 26, 0, 0, .null, [], [])), (23, (.bipush (-4), 25, 0, 0, 0, .int (-4), [], [])), (25, (.ireturn, 26, 0, 0, 0, .null, [], [])), (26, (.iload 5, 28, 5, 0, 0, .null, [], []))]),
  (42, [(28, (.bipush 9, 30, 0, 0, 0, .int 9, [], [])), (30, (.irem, 31, 0, 0, 0, .null, [], [])), (31, (.ifCond .ne 8, 34, 39, 0, 0, .null, [], [])), (34, (.bipush 97, 36, 0, 0, 0, .int 97, [], [])), (36, (.goto 4, 39, 40, 0, 0, .null, [], [])), (39, (.iconst 0, 40, 0, 0, 0, .int 0, [], [])), (40, (.istore 6, 42, 6, 0, 0, .null, [3, 5, 6], [])), (42, (.aload_n 0, 43, 0, 0, 0, .null, [], []))]),
  (53, [(43, (.getfield 9, 46, 2, 0, 2, .null, [], [])), (46, (.iload_n 2, 47, 2, 0, 0, .null, [], [])), (47, (.iaload, 48, 0, 0, 0, .null, [], [])), (48, (.bipush 40, 50, 0, 0, 0, .int 40, [], [])), (50, (.iload_n 1, 51, 1, 0, 0, .null, [], [])), (51, (.iconst 1, 52, 0, 0, 0, .int 1, [], [])), (52, (.iadd, 53, 0, 0, 0, .null, [], [])), (53, (.imul, 54, 0, 0, 0, .null, [], []))]),
  (63, [(54, (.iadd, 55, 0, 0, 0, .null, [], [])), (55, (.aload_n 0, 56, 0, 0, 0, .null, [], [])), (56, (.getfield 15, 59, 2, 1, 2, .null, [], [])), (59, (.iload_n 2, 60, 2, 0, 0, .null, [], [])), (60, (.iaload, 61, 0, 0, 0, .null, [], [])), (61, (.iload_n 1, 62, 1, 0, 0, .null, [], [])), (62, (.imul, 63, 0, 0, 0, .null, [], [])), (63, (.iadd, 64, 0, 0, 0, .null, [], []))]),
  (72, [(64, (.iload 4, 66, 4, 0, 0, .null, [], [])), (66, (.iconst 3, 67, 0, 0, 0, .int 3, [], [])), (67, (.irem, 68, 0, 0, 0, .null, [], [])), (68, (.iadd, 69, 0, 0, 0, .null, [], [])), (69, (.iload 6, 71, 6, 0, 0, .null, [], [])), (71, (.iadd, 72, 0, 0, 0, .null, [], [])), (72, (.ireturn, 73, 0, 0, 0, .null, [], []))])]
def zc_Drawer_stampBySeed : zCd := zFd zl_Drawer_stampBySeed
def zl_Drawer_next : List (Nat × List (Nat × zEnt)) := [(12, [(0, (.aload_n 0, 1, 0, 0, 0, .null, [], [])), (1, (.aload_n 0, 2, 0, 0, 0, .null, [], [])), (2, (.getfield 18, 5, 2, 2, 0, .null, [], [])), (5, (.ldc 40, 7, 0, 0, 0, .int 1103515245, [], [])), (7, (.imul, 8, 0, 0, 0, .null, [], [])), (8, (.sipush 12345, 11, 0, 0, 0, .int 12345, [], [])), (11, (.iadd, 12, 0, 0, 0, .null, [], [])), (12, (.putfield 18, 15, 2, 2, 0, .null, [], []))]),
  (26, [(15, (.aload_n 0, 16, 0, 0, 0, .null, [], [])), (16, (.getfield 18, 19, 2, 2, 0, .null, [], [])), (19, (.bipush 16, 21, 0, 0, 0, .int 16, [], [])), (21, (.iushr, 22, 0, 0, 0, .null, [], [])), (22, (.sipush 32767, 25, 0, 0, 0, .int 32767, [], [])), (25, (.iand, 26, 0, 0, 0, .null, [], [])), (26, (.ireturn, 27, 0, 0, 0, .null, [], []))])]
def zc_Drawer_next : zCd := zFd zl_Drawer_next
def zl_Line_init : List (Nat × List (Nat × zEnt)) := [(12, [(0, (.aload_n 0, 1, 0, 0, 0, .null, [], [])), (1, (.invokespecial 3, 4, 0, 0, 0, .double 0, [], [])), (4, (.aload_n 0, 5, 0, 0, 0, .null, [], [])), (5, (.bipush 16, 7, 0, 0, 0, .int 16, [], [])), (7, (.newarray .int, 9, 0, 0, 0, .null, [], [])), (9, (.putfield 9, 12, 3, 11, 2, .null, [], [])), (12, (.return_, 13, 0, 0, 0, .null, [], [1]))])]
def zc_Line_init : zCd := zFd zl_Line_init
def zl_Line_fit : List (Nat × List (Nat × zEnt)) := [(11, [(0, (.aload_n 0, 1, 0, 0, 0, .null, [], [])), (1, (.aload_n 1, 2, 1, 0, 0, .null, [], [])), (2, (.iload_n 2, 3, 2, 0, 0, .null, [], [])), (3, (.iload_n 3, 4, 3, 0, 0, .null, [], [])), (4, (.invokevirtual 15, 7, 15, 3, 0, .ref 0, [], [])), (7, (.putfield 21, 10, 3, 12, 0, .null, [], [])), (10, (.aload_n 0, 11, 0, 0, 0, .null, [], [])), (11, (.iconst 0, 12, 0, 0, 0, .int 0, [], []))]),
  (25, [(12, (.putfield 25, 15, 3, 10, 0, .null, [], [])), (15, (.aload_n 0, 16, 0, 0, 0, .null, [], [])), (16, (.iconst (-1), 17, 0, 0, 0, .int (-1), [], [])), (17, (.putfield 28, 20, 3, 1, 0, .null, [], [])), (20, (.iconst 0, 21, 0, 0, 0, .int 0, [], [])), (21, (.istore 4, 23, 4, 0, 0, .null, [], [])), (23, (.iload 4, 25, 4, 0, 0, .null, [], [])), (25, (.bipush 16, 27, 0, 0, 0, .int 16, [], []))]),
  (40, [(27, (.if_icmp .gt 60, 30, 87, 0, 0, .null, [], [])), (30, (.aload_n 0, 31, 0, 0, 0, .null, [], [])), (31, (.getfield 28, 34, 3, 1, 0, .null, [], [])), (34, (.iconst (-1), 35, 0, 0, 0, .int (-1), [], [])), (35, (.if_icmp .ne 52, 38, 87, 0, 0, .null, [], [])), (38, (.aload_n 0, 39, 0, 0, 0, .null, [], [])), (39, (.aload_n 1, 40, 1, 0, 0, .null, [], [])), (40, (.iload_n 2, 41, 2, 0, 0, .null, [], []))]),
  (52, [(41, (.iload_n 3, 42, 3, 0, 0, .null, [], [])), (42, (.invokevirtual 31, 45, 39, 4, 9, .ref 3, [], [])), (45, (.aload_n 0, 46, 0, 0, 0, .null, [], [])), (46, (.aload_n 1, 47, 1, 0, 0, .null, [], [])), (47, (.iload_n 2, 48, 2, 0, 0, .null, [], [])), (48, (.iload_n 3, 49, 3, 0, 0, .null, [], [])), (49, (.invokevirtual 35, 52, 40, 4, 9, .ref 3, [], [])), (52, (.aload_n 0, 53, 0, 0, 0, .null, [], []))]),
  (66, [(53, (.aload_n 0, 54, 0, 0, 0, .null, [], [])), (54, (.aload_n 1, 55, 1, 0, 0, .null, [], [])), (55, (.getfield 38, 58, 0, 1, 0, .null, [], [])), (58, (.i2l, 59, 0, 0, 0, .null, [], [])), (59, (.aload_n 1, 60, 1, 0, 0, .null, [], [])), (60, (.getfield 41, 63, 0, 2, 0, .null, [], [])), (63, (.invokevirtual 44, 66, 37, 3, 0, .ref 3, [], [])), (66, (.putfield 28, 69, 3, 1, 0, .null, [], []))]),
  (84, [(69, (.aload_n 0, 70, 0, 0, 0, .null, [], [])), (70, (.getfield 28, 73, 3, 1, 0, .null, [], [])), (73, (.iconst (-1), 74, 0, 0, 0, .int (-1), [], [])), (74, (.if_icmp .ne 7, 77, 81, 0, 0, .null, [], [])), (77, (.aload_n 0, 78, 0, 0, 0, .null, [], [])), (78, (.invokevirtual 48, 81, 38, 1, 9, .ref 3, [], [])), (81, (.iinc 4 1, 84, 4, 0, 0, .int 1, [], [])), (84, (.goto (-61), 87, 23, 0, 0, .null, [], []))]),
  (87, [(87, (.return_, 88, 0, 0, 0, .null, [], []))])]
def zc_Line_fit : zCd := zFd zl_Line_fit
def zl_Line_judge : List (Nat × List (Nat × zEnt)) := [(13, [(0, (.aload_n 0, 1, 0, 0, 0, .null, [], [])), (1, (.getfield 51, 4, 3, 2, 0, .null, [], [])), (4, (.iload_n 3, 5, 3, 0, 0, .null, [], [])), (5, (.if_icmp .lt 12, 8, 17, 0, 0, .null, [], [])), (8, (.aload_n 0, 9, 0, 0, 0, .null, [], [])), (9, (.getfield 54, 12, 3, 5, 1, .null, [], [])), (12, (.lconst 0, 13, 0, 0, 0, .long 0, [], [])), (13, (.lcmp, 14, 0, 0, 0, .null, [], []))]),
  (25, [(14, (.ifCond .ne 5, 17, 19, 0, 0, .null, [], [])), (17, (.iconst 0, 18, 0, 0, 0, .int 0, [], [])), (18, (.ireturn, 19, 0, 0, 0, .null, [], [])), (19, (.aload_n 0, 20, 0, 0, 0, .null, [], [])), (20, (.getfield 58, 23, 3, 9, 1, .null, [], [])), (23, (.lload_n 1, 24, 1, 0, 0, .null, [], [])), (24, (.aload_n 0, 25, 0, 0, 0, .null, [], [])), (25, (.getfield 61, 28, 3, 7, 1, .null, [], []))]),
  (39, [(28, (.lmul, 29, 0, 0, 0, .null, [], [])), (29, (.lcmp, 30, 0, 0, 0, .null, [], [])), (30, (.ifCond .gt 5, 33, 35, 0, 0, .null, [], [])), (33, (.iconst 2, 34, 0, 0, 0, .int 2, [], [])), (34, (.ireturn, 35, 0, 0, 0, .null, [], [])), (35, (.aload_n 0, 36, 0, 0, 0, .null, [], [])), (36, (.getfield 51, 39, 3, 2, 0, .null, [], [])), (39, (.iload_n 3, 40, 3, 0, 0, .null, [], []))]),
  (48, [(40, (.if_icmp .ne 7, 43, 47, 0, 0, .null, [], [])), (43, (.iconst 1, 44, 0, 0, 0, .int 1, [], [])), (44, (.goto 4, 47, 48, 0, 0, .null, [], [])), (47, (.iconst (-1), 48, 0, 0, 0, .int (-1), [], [])), (48, (.ireturn, 49, 0, 0, 0, .null, [], []))])]
def zc_Line_judge : zCd := zFd zl_Line_judge
def zl_Line_strikeFarthest : List (Nat × List (Nat × zEnt)) := [(16, [(0, (.aload_n 0, 1, 0, 0, 0, .null, [], [])), (1, (.getfield 64, 4, 3, 8, 0, .null, [], [])), (4, (.ifCond .lt 52, 7, 56, 0, 0, .null, [], [])), (7, (.aload_n 0, 8, 0, 0, 0, .null, [], [])), (8, (.getfield 25, 11, 3, 10, 0, .null, [], [])), (11, (.bipush 16, 13, 0, 0, 0, .int 16, [], [])), (13, (.if_icmp .ge 43, 16, 56, 0, 0, .null, [], [])), (16, (.aload_n 0, 17, 0, 0, 0, .null, [], []))]),
  (30, [(17, (.getfield 9, 20, 3, 11, 2, .null, [], [])), (20, (.aload_n 0, 21, 0, 0, 0, .null, [], [])), (21, (.getfield 25, 24, 3, 10, 0, .null, [], [])), (24, (.aload_n 0, 25, 0, 0, 0, .null, [], [])), (25, (.getfield 64, 28, 3, 8, 0, .null, [], [])), (28, (.iastore, 29, 0, 0, 0, .null, [], [])), (29, (.aload_n 0, 30, 0, 0, 0, .null, [], [])), (30, (.dup, 31, 0, 0, 0, .null, [], []))]),
  (44, [(31, (.getfield 25, 34, 3, 10, 0, .null, [], [])), (34, (.iconst 1, 35, 0, 0, 0, .int 1, [], [])), (35, (.iadd, 36, 0, 0, 0, .null, [], [])), (36, (.putfield 25, 39, 3, 10, 0, .null, [], [])), (39, (.aload_n 0, 40, 0, 0, 0, .null, [], [])), (40, (.dup, 41, 0, 0, 0, .null, [], [])), (41, (.getfield 21, 44, 3, 12, 0, .null, [], [])), (44, (.iconst 1, 45, 0, 0, 0, .int 1, [], []))]),
  (56, [(45, (.aload_n 0, 46, 0, 0, 0, .null, [], [])), (46, (.getfield 64, 49, 3, 8, 0, .null, [], [])), (49, (.ishl, 50, 0, 0, 0, .null, [], [])), (50, (.iconst (-1), 51, 0, 0, 0, .int (-1), [], [])), (51, (.ixor, 52, 0, 0, 0, .null, [], [])), (52, (.iand, 53, 0, 0, 0, .null, [], [])), (53, (.putfield 21, 56, 3, 12, 0, .null, [], [])), (56, (.return_, 57, 0, 0, 0, .null, [], []))])]
def zc_Line_strikeFarthest : zCd := zFd zl_Line_strikeFarthest
def zl_Line_sumUp : List (Nat × List (Nat × zEnt)) := [(16, [(0, (.aload_n 0, 1, 0, 0, 0, .null, [], [])), (1, (.aload_n 0, 2, 0, 0, 0, .null, [], [])), (2, (.getfield 21, 5, 3, 12, 0, .null, [], [])), (5, (.invokestatic 67, 8, 0, 1, 0, .null, [], [])), (8, (.putfield 51, 11, 3, 2, 0, .null, [], [])), (11, (.aload_n 0, 12, 0, 0, 0, .null, [], [])), (12, (.lconst 0, 13, 0, 0, 0, .long 0, [], [])), (13, (.putfield 73, 16, 3, 3, 1, .null, [], [])), (16, (.aload_n 0, 17, 0, 0, 0, .null, [], []))]),
  (30, [(17, (.lconst 0, 18, 0, 0, 0, .long 0, [], [])), (18, (.putfield 76, 21, 3, 4, 1, .null, [], [])), (21, (.lconst 0, 22, 0, 0, 0, .long 0, [], [])), (22, (.lstore 4, 24, 4, 0, 0, .null, [], [])), (24, (.lconst 0, 25, 0, 0, 0, .long 0, [], [])), (25, (.lstore 6, 27, 6, 0, 0, .null, [], [])), (27, (.iconst 0, 28, 0, 0, 0, .int 0, [], [])), (28, (.istore 8, 30, 8, 0, 0, .null, [], [])), (30, (.iload 8, 32, 8, 0, 0, .null, [5, 7, 9, 10, 11, 12], []))]),
  (49, [(32, (.bipush 16, 34, 0, 0, 0, .int 16, [], [])), (34, (.if_icmp .ge 80, 37, 114, 0, 0, .null, [], [])), (37, (.aload_n 0, 38, 0, 0, 0, .null, [], [])), (38, (.iload 8, 40, 8, 0, 0, .null, [], [])), (40, (.invokevirtual 79, 43, 41, 2, 0, .ref 3, [], [])), (43, (.ifCond .eq 65, 46, 108, 0, 0, .null, [], [])), (46, (.aload_n 1, 47, 1, 0, 0, .null, [5, 7, 9, 10, 11, 12], [])), (47, (.iload 8, 49, 8, 0, 0, .null, [], [])), (49, (.iload_n 2, 50, 2, 0, 0, .null, [], []))]),
  (64, [(50, (.invokevirtual 83, 53, 7, 3, 0, .ref 0, [], [])), (53, (.i2l, 54, 0, 0, 0, .null, [], [])), (54, (.lstore 9, 56, 9, 0, 0, .null, [], [])), (56, (.aload_n 1, 57, 1, 0, 0, .null, [], [])), (57, (.iload 8, 59, 8, 0, 0, .null, [], [])), (59, (.iload_n 3, 60, 3, 0, 0, .null, [], [])), (60, (.invokevirtual 83, 63, 7, 3, 0, .ref 0, [], [])), (63, (.i2l, 64, 0, 0, 0, .null, [], [])), (64, (.lstore 11, 66, 11, 0, 0, .null, [], []))]),
  (79, [(66, (.aload_n 0, 67, 0, 0, 0, .null, [], [])), (67, (.dup, 68, 0, 0, 0, .null, [], [])), (68, (.getfield 73, 71, 3, 3, 1, .null, [], [])), (71, (.lload 9, 73, 9, 0, 0, .null, [], [])), (73, (.ladd, 74, 0, 0, 0, .null, [], [])), (74, (.putfield 73, 77, 3, 3, 1, .null, [], [])), (77, (.aload_n 0, 78, 0, 0, 0, .null, [], [])), (78, (.dup, 79, 0, 0, 0, .null, [], [])), (79, (.getfield 76, 82, 3, 4, 1, .null, [], []))]),
  (96, [(82, (.lload 11, 84, 11, 0, 0, .null, [], [])), (84, (.ladd, 85, 0, 0, 0, .null, [], [])), (85, (.putfield 76, 88, 3, 4, 1, .null, [], [])), (88, (.lload 4, 90, 4, 0, 0, .null, [], [])), (90, (.lload 9, 92, 9, 0, 0, .null, [], [])), (92, (.lload 9, 94, 9, 0, 0, .null, [], [])), (94, (.lmul, 95, 0, 0, 0, .null, [], [])), (95, (.ladd, 96, 0, 0, 0, .null, [], [])), (96, (.lstore 4, 98, 4, 0, 0, .null, [], []))]),
  (114, [(98, (.lload 6, 100, 6, 0, 0, .null, [], [])), (100, (.lload 9, 102, 9, 0, 0, .null, [], [])), (102, (.lload 11, 104, 11, 0, 0, .null, [], [])), (104, (.lmul, 105, 0, 0, 0, .null, [], [])), (105, (.ladd, 106, 0, 0, 0, .null, [], [])), (106, (.lstore 6, 108, 6, 0, 0, .null, [], [])), (108, (.iinc 8 1, 111, 8, 0, 0, .int 1, [], [])), (111, (.goto (-81), 114, 30, 0, 0, .null, [], [])), (114, (.aload_n 0, 115, 0, 0, 0, .null, [1, 2, 3, 5, 7, 8, 9, 10, 11, 12], []))]),
  (128, [(115, (.aload_n 0, 116, 0, 0, 0, .null, [], [])), (116, (.getfield 51, 119, 3, 2, 0, .null, [], [])), (119, (.i2l, 120, 0, 0, 0, .null, [], [])), (120, (.lload 4, 122, 4, 0, 0, .null, [], [])), (122, (.lmul, 123, 0, 0, 0, .null, [], [])), (123, (.aload_n 0, 124, 0, 0, 0, .null, [], [])), (124, (.getfield 73, 127, 3, 3, 1, .null, [], [])), (127, (.aload_n 0, 128, 0, 0, 0, .null, [], [])), (128, (.getfield 73, 131, 3, 3, 1, .null, [], []))]),
  (144, [(131, (.lmul, 132, 0, 0, 0, .null, [], [])), (132, (.lsub, 133, 0, 0, 0, .null, [], [])), (133, (.putfield 54, 136, 3, 5, 1, .null, [], [])), (136, (.aload_n 0, 137, 0, 0, 0, .null, [], [])), (137, (.aload_n 0, 138, 0, 0, 0, .null, [], [])), (138, (.getfield 51, 141, 3, 2, 0, .null, [], [])), (141, (.i2l, 142, 0, 0, 0, .null, [], [])), (142, (.lload 6, 144, 6, 0, 0, .null, [], [])), (144, (.lmul, 145, 0, 0, 0, .null, [], []))]),
  (159, [(145, (.aload_n 0, 146, 0, 0, 0, .null, [], [])), (146, (.getfield 73, 149, 3, 3, 1, .null, [], [])), (149, (.aload_n 0, 150, 0, 0, 0, .null, [], [])), (150, (.getfield 76, 153, 3, 4, 1, .null, [], [])), (153, (.lmul, 154, 0, 0, 0, .null, [], [])), (154, (.lsub, 155, 0, 0, 0, .null, [], [])), (155, (.putfield 86, 158, 3, 6, 1, .null, [], [])), (158, (.aload_n 0, 159, 0, 0, 0, .null, [], [])), (159, (.aload_n 0, 160, 0, 0, 0, .null, [], []))]),
  (172, [(160, (.getfield 51, 163, 3, 2, 0, .null, [], [])), (163, (.i2l, 164, 0, 0, 0, .null, [], [])), (164, (.aload_n 0, 165, 0, 0, 0, .null, [], [])), (165, (.getfield 54, 168, 3, 5, 1, .null, [], [])), (168, (.lmul, 169, 0, 0, 0, .null, [], [])), (169, (.putfield 61, 172, 3, 7, 1, .null, [], [])), (172, (.return_, 173, 0, 0, 0, .null, [], []))])]
def zc_Line_sumUp : zCd := zFd zl_Line_sumUp
def zl_Line_findFarthest : List (Nat × List (Nat × zEnt)) := [(14, [(0, (.aload_n 0, 1, 0, 0, 0, .null, [], [])), (1, (.bipush (-4), 3, 0, 0, 0, .int (-4), [], [])), (3, (.putfield 64, 6, 3, 8, 0, .null, [], [])), (6, (.aload_n 0, 7, 0, 0, 0, .null, [], [])), (7, (.ldc2_w 89, 10, 0, 0, 0, .long (-1), [], [])), (10, (.putfield 58, 13, 3, 9, 1, .null, [], [])), (13, (.iconst 0, 14, 0, 0, 0, .int 0, [], [])), (14, (.istore 4, 16, 4, 0, 0, .null, [], []))]),
  (32, [(16, (.iload 4, 18, 4, 0, 0, .null, [5, 6], [])), (18, (.bipush 16, 20, 0, 0, 0, .int 16, [], [])), (20, (.if_icmp .ge 62, 23, 82, 0, 0, .null, [], [])), (23, (.aload_n 0, 24, 0, 0, 0, .null, [], [])), (24, (.iload 4, 26, 4, 0, 0, .null, [], [])), (26, (.invokevirtual 79, 29, 41, 2, 0, .ref 3, [], [])), (29, (.ifCond .eq 47, 32, 76, 0, 0, .null, [], [])), (32, (.aload_n 0, 33, 0, 0, 0, .null, [], []))]),
  (44, [(33, (.aload_n 1, 34, 1, 0, 0, .null, [], [])), (34, (.iload 4, 36, 4, 0, 0, .null, [], [])), (36, (.iload_n 2, 37, 2, 0, 0, .null, [], [])), (37, (.invokevirtual 83, 40, 7, 3, 0, .ref 0, [], [])), (40, (.i2l, 41, 0, 0, 0, .null, [], [])), (41, (.aload_n 1, 42, 1, 0, 0, .null, [], [])), (42, (.iload 4, 44, 4, 0, 0, .null, [], [])), (44, (.iload_n 3, 45, 3, 0, 0, .null, [], []))]),
  (60, [(45, (.invokevirtual 83, 48, 7, 3, 0, .ref 0, [], [])), (48, (.i2l, 49, 0, 0, 0, .null, [], [])), (49, (.invokevirtual 91, 52, 42, 3, 1, .ref 3, [], [])), (52, (.lstore 5, 54, 5, 0, 0, .null, [], [])), (54, (.lload 5, 56, 5, 0, 0, .null, [], [])), (56, (.aload_n 0, 57, 0, 0, 0, .null, [], [])), (57, (.getfield 58, 60, 3, 9, 1, .null, [], [])), (60, (.lcmp, 61, 0, 0, 0, .null, [], []))]),
  (76, [(61, (.ifCond .le 15, 64, 76, 0, 0, .null, [], [])), (64, (.aload_n 0, 65, 0, 0, 0, .null, [], [])), (65, (.iload 4, 67, 4, 0, 0, .null, [], [])), (67, (.putfield 64, 70, 3, 8, 0, .null, [], [])), (70, (.aload_n 0, 71, 0, 0, 0, .null, [], [])), (71, (.lload 5, 73, 5, 0, 0, .null, [], [])), (73, (.putfield 58, 76, 3, 9, 1, .null, [], [])), (76, (.iinc 4 1, 79, 4, 0, 0, .int 1, [], []))]),
  (82, [(79, (.goto (-63), 82, 16, 0, 0, .null, [], [])), (82, (.return_, 83, 0, 0, 0, .null, [], []))])]
def zc_Line_findFarthest : zCd := zFd zl_Line_findFarthest
def zl_Line_isLeft : List (Nat × List (Nat × zEnt)) := [(9, [(0, (.aload_n 0, 1, 0, 0, 0, .null, [], [])), (1, (.getfield 21, 4, 3, 12, 0, .null, [], [])), (4, (.iload_n 1, 5, 1, 0, 0, .null, [], [])), (5, (.ishr, 6, 0, 0, 0, .null, [], [])), (6, (.iconst 1, 7, 0, 0, 0, .int 1, [], [])), (7, (.iand, 8, 0, 0, 0, .null, [], [])), (8, (.iconst 1, 9, 0, 0, 0, .int 1, [], [])), (9, (.if_icmp .ne 7, 12, 16, 0, 0, .null, [], []))]),
  (17, [(12, (.iconst 1, 13, 0, 0, 0, .int 1, [], [])), (13, (.goto 4, 16, 17, 0, 0, .null, [], [])), (16, (.iconst 0, 17, 0, 0, 0, .int 0, [], [])), (17, (.ireturn, 18, 0, 0, 3, .null, [], []))])]
def zc_Line_isLeft : zCd := zFd zl_Line_isLeft
def zl_Line_farOf : List (Nat × List (Nat × zEnt)) := [(11, [(0, (.lload_n 3, 1, 3, 0, 0, .null, [], [])), (1, (.aload_n 0, 2, 0, 0, 0, .null, [], [])), (2, (.getfield 61, 5, 3, 7, 1, .null, [], [])), (5, (.lmul, 6, 0, 0, 0, .null, [], [])), (6, (.aload_n 0, 7, 0, 0, 0, .null, [], [])), (7, (.getfield 76, 10, 3, 4, 1, .null, [], [])), (10, (.aload_n 0, 11, 0, 0, 0, .null, [], [])), (11, (.getfield 54, 14, 3, 5, 1, .null, [], []))]),
  (25, [(14, (.lmul, 15, 0, 0, 0, .null, [], [])), (15, (.lsub, 16, 0, 0, 0, .null, [], [])), (16, (.aload_n 0, 17, 0, 0, 0, .null, [], [])), (17, (.getfield 86, 20, 3, 6, 1, .null, [], [])), (20, (.aload_n 0, 21, 0, 0, 0, .null, [], [])), (21, (.getfield 51, 24, 3, 2, 0, .null, [], [])), (24, (.i2l, 25, 0, 0, 0, .null, [], [])), (25, (.lload_n 1, 26, 1, 0, 0, .null, [], []))]),
  (36, [(26, (.lmul, 27, 0, 0, 0, .null, [], [])), (27, (.aload_n 0, 28, 0, 0, 0, .null, [], [])), (28, (.getfield 73, 31, 3, 3, 1, .null, [], [])), (31, (.lsub, 32, 0, 0, 0, .null, [], [])), (32, (.lmul, 33, 0, 0, 0, .null, [], [])), (33, (.lsub, 34, 0, 0, 0, .null, [], [])), (34, (.lstore 5, 36, 5, 0, 0, .null, [], [])), (36, (.lload 5, 38, 5, 0, 0, .null, [], []))]),
  (51, [(38, (.lconst 0, 39, 0, 0, 0, .long 0, [], [])), (39, (.lcmp, 40, 0, 0, 0, .null, [], [])), (40, (.ifCond .ge 9, 43, 49, 0, 0, .null, [], [])), (43, (.lload 5, 45, 5, 0, 0, .null, [], [])), (45, (.lneg, 46, 0, 0, 0, .null, [], [])), (46, (.goto 5, 49, 51, 0, 0, .null, [], [])), (49, (.lload 5, 51, 5, 0, 0, .null, [], [])), (51, (.lreturn, 52, 0, 0, 0, .null, [], []))])]
def zc_Line_farOf : zCd := zFd zl_Line_farOf
def zl_Line_partsUp : List (Nat × List (Nat × zEnt)) := [(13, [(0, (.aload_n 0, 1, 0, 0, 0, .null, [], [])), (1, (.getfield 61, 4, 3, 7, 1, .null, [], [])), (4, (.lconst 0, 5, 0, 0, 0, .long 0, [], [])), (5, (.lcmp, 6, 0, 0, 0, .null, [], [])), (6, (.ifCond .ne 7, 9, 13, 0, 0, .null, [], [])), (9, (.lconst 0, 10, 0, 0, 0, .long 0, [], [])), (10, (.goto 20, 13, 30, 0, 0, .null, [], [])), (13, (.ldc2_w 95, 16, 0, 0, 0, .long 256, [], []))]),
  (25, [(16, (.lload_n 1, 17, 1, 0, 0, .null, [], [])), (17, (.lmul, 18, 0, 0, 0, .null, [], [])), (18, (.aload_n 0, 19, 0, 0, 0, .null, [], [])), (19, (.getfield 61, 22, 3, 7, 1, .null, [], [])), (22, (.ladd, 23, 0, 0, 0, .null, [], [])), (23, (.lconst 1, 24, 0, 0, 0, .long 1, [], [])), (24, (.lsub, 25, 0, 0, 0, .null, [], [])), (25, (.aload_n 0, 26, 0, 0, 0, .null, [], []))]),
  (30, [(26, (.getfield 61, 29, 3, 7, 1, .null, [], [])), (29, (.ldiv, 30, 0, 0, 0, .null, [], [])), (30, (.lreturn, 31, 0, 0, 0, .null, [], []))])]
def zc_Line_partsUp : zCd := zFd zl_Line_partsUp
def zl_Line_costOfGood : List (Nat × List (Nat × zEnt)) := [(11, [(0, (.aload_n 0, 1, 0, 0, 0, .null, [], [])), (1, (.aload_n 0, 2, 0, 0, 0, .null, [], [])), (2, (.getfield 58, 5, 3, 9, 1, .null, [], [])), (5, (.invokevirtual 97, 8, 43, 2, 1, .ref 3, [], [])), (8, (.l2i, 9, 0, 0, 0, .null, [], [])), (9, (.iconst 1, 10, 0, 0, 0, .int 1, [], [])), (10, (.iadd, 11, 0, 0, 0, .null, [], [])), (11, (.ireturn, 12, 0, 0, 0, .null, [], []))])]
def zc_Line_costOfGood : zCd := zFd zl_Line_costOfGood
def zl_Sheet_init : List (Nat × List (Nat × zEnt)) := [(12, [(0, (.aload_n 0, 1, 0, 0, 0, .null, [], [])), (1, (.invokespecial 3, 4, 0, 0, 0, .double 0, [], [])), (4, (.aload_n 0, 5, 0, 0, 0, .null, [], [])), (5, (.iconst (-1), 6, 0, 0, 0, .int (-1), [], [])), (6, (.putfield 11, 9, 4, 0, 0, .null, [], [])), (9, (.aload_n 0, 10, 0, 0, 0, .null, [], [])), (10, (.bipush 48, 12, 0, 0, 0, .int 48, [], [])), (12, (.newarray .long, 14, 0, 1, 0, .null, [], []))]),
  (17, [(14, (.putfield 15, 17, 4, 2, 2, .null, [], [])), (17, (.return_, 18, 0, 0, 0, .null, [], [1]))])]
def zc_Sheet_init : zCd := zFd zl_Sheet_init
def zl_Sheet_isNothing : List (Nat × List (Nat × zEnt)) := [(13, [(0, (.aload_n 0, 1, 0, 0, 0, .null, [], [])), (1, (.getfield 11, 4, 4, 0, 0, .null, [], [])), (4, (.iconst (-1), 5, 0, 0, 0, .int (-1), [], [])), (5, (.if_icmp .ne 7, 8, 12, 0, 0, .null, [], [])), (8, (.iconst 1, 9, 0, 0, 0, .int 1, [], [])), (9, (.goto 4, 12, 13, 0, 0, .null, [], [])), (12, (.iconst 0, 13, 0, 0, 0, .int 0, [], [])), (13, (.ireturn, 14, 0, 0, 3, .null, [], []))])]
def zc_Sheet_isNothing : zCd := zFd zl_Sheet_isNothing
def zl_Sheet_renew : List (Nat × List (Nat × zEnt)) := [(11, [(0, (.aload_n 0, 1, 0, 0, 0, .null, [], [])), (1, (.iload_n 1, 2, 1, 0, 0, .null, [], [])), (2, (.putfield 19, 5, 4, 1, 0, .null, [], [])), (5, (.aload_n 0, 6, 0, 0, 0, .null, [], [])), (6, (.iload_n 2, 7, 2, 0, 0, .null, [], [])), (7, (.putfield 11, 10, 4, 0, 0, .null, [], [])), (10, (.aload_n 0, 11, 0, 0, 0, .null, [], [])), (11, (.getfield 15, 14, 4, 2, 2, .null, [], []))]),
  (18, [(14, (.lconst 0, 15, 0, 0, 0, .long 0, [], [])), (15, (.invokestatic 22, 18, 3, 2, 9, .null, [], [])), (18, (.return_, 19, 0, 0, 0, .null, [], []))])]
def zc_Sheet_renew : zCd := zFd zl_Sheet_renew
def zl_Sheet_hasCell : List (Nat × List (Nat × zEnt)) := [(13, [(0, (.iload_n 1, 1, 1, 0, 0, .null, [], [])), (1, (.ifCond .lt 15, 4, 16, 0, 0, .null, [], [])), (4, (.iload_n 1, 5, 1, 0, 0, .null, [], [])), (5, (.aload_n 0, 6, 0, 0, 0, .null, [], [])), (6, (.getfield 11, 9, 4, 0, 0, .null, [], [])), (9, (.if_icmp .ge 7, 12, 16, 0, 0, .null, [], [])), (12, (.iconst 1, 13, 0, 0, 0, .int 1, [], [])), (13, (.goto 4, 16, 17, 0, 0, .null, [], []))]),
  (17, [(16, (.iconst 0, 17, 0, 0, 0, .int 0, [], [])), (17, (.ireturn, 18, 0, 0, 3, .null, [], []))])]
def zc_Sheet_hasCell : zCd := zFd zl_Sheet_hasCell
def zl_Sheet_putCell : List (Nat × List (Nat × zEnt)) := [(13, [(0, (.aload_n 0, 1, 0, 0, 0, .null, [], [])), (1, (.getfield 15, 4, 4, 2, 2, .null, [], [])), (4, (.iload_n 1, 5, 1, 0, 0, .null, [], [])), (5, (.aload_n 0, 6, 0, 0, 0, .null, [], [])), (6, (.getfield 19, 9, 4, 1, 0, .null, [], [])), (9, (.ifCond .ne 9, 12, 18, 0, 0, .null, [], [])), (12, (.iload_n 2, 13, 2, 0, 0, .null, [], [])), (13, (.i2s, 14, 0, 0, 0, .null, [], []))]),
  (21, [(14, (.i2l, 15, 0, 0, 0, .null, [], [])), (15, (.goto 5, 18, 20, 0, 0, .null, [], [])), (18, (.iload_n 2, 19, 2, 0, 0, .null, [], [])), (19, (.i2l, 20, 0, 0, 0, .null, [], [])), (20, (.lastore, 21, 0, 0, 0, .null, [], [])), (21, (.return_, 22, 0, 0, 0, .null, [], []))])]
def zc_Sheet_putCell : zCd := zFd zl_Sheet_putCell
def zl_Sheet_firstFault : List (Nat × List (Nat × zEnt)) := [(12, [(0, (.aload_n 0, 1, 0, 0, 0, .null, [], [])), (1, (.invokevirtual 28, 4, 46, 1, 0, .ref 4, [], [])), (4, (.ifCond .eq 6, 7, 10, 0, 0, .null, [], [])), (7, (.bipush (-11), 9, 0, 0, 0, .int (-11), [], [])), (9, (.ireturn, 10, 0, 0, 0, .null, [], [])), (10, (.iload_n 1, 11, 1, 0, 0, .null, [], [])), (11, (.aload_n 0, 12, 0, 0, 0, .null, [], [])), (12, (.getfield 19, 15, 4, 1, 0, .null, [], []))]),
  (27, [(15, (.if_icmp .eq 6, 18, 21, 0, 0, .null, [], [])), (18, (.bipush (-12), 20, 0, 0, 0, .int (-12), [], [])), (20, (.ireturn, 21, 0, 0, 0, .null, [], [])), (21, (.iconst 0, 22, 0, 0, 0, .int 0, [], [])), (22, (.istore 4, 24, 4, 0, 0, .null, [], [])), (24, (.iload 4, 26, 4, 0, 0, .null, [1], [])), (26, (.iload_n 3, 27, 3, 0, 0, .null, [], [])), (27, (.if_icmp .ge 45, 30, 72, 0, 0, .null, [], []))]),
  (43, [(30, (.aload_n 0, 31, 0, 0, 0, .null, [], [])), (31, (.iload_n 2, 32, 2, 0, 0, .null, [], [])), (32, (.iload 4, 34, 4, 0, 0, .null, [], [])), (34, (.iadd, 35, 0, 0, 0, .null, [], [])), (35, (.invokevirtual 32, 38, 48, 2, 0, .ref 4, [], [])), (38, (.ifCond .ne 6, 41, 44, 0, 0, .null, [], [])), (41, (.bipush (-13), 43, 0, 0, 0, .int (-13), [], [])), (43, (.ireturn, 44, 0, 0, 0, .null, [], []))]),
  (56, [(44, (.aload_n 0, 45, 0, 0, 0, .null, [], [])), (45, (.getfield 15, 48, 4, 2, 2, .null, [], [])), (48, (.iload_n 2, 49, 2, 0, 0, .null, [], [])), (49, (.iload 4, 51, 4, 0, 0, .null, [], [])), (51, (.iadd, 52, 0, 0, 0, .null, [], [])), (52, (.laload, 53, 0, 0, 0, .null, [], [])), (53, (.ldc2_w 36, 56, 0, 0, 0, .long 9999, [], [])), (56, (.lcmp, 57, 0, 0, 0, .null, [], []))]),
  (72, [(57, (.ifCond .le 9, 60, 66, 0, 0, .null, [], [])), (60, (.bipush (-20), 62, 0, 0, 0, .int (-20), [], [])), (62, (.iload 4, 64, 4, 0, 0, .null, [], [])), (64, (.isub, 65, 0, 0, 0, .null, [], [])), (65, (.ireturn, 66, 0, 0, 0, .null, [], [])), (66, (.iinc 4 1, 69, 4, 0, 0, .int 1, [], [])), (69, (.goto (-45), 72, 24, 0, 0, .null, [], [])), (72, (.iconst 0, 73, 0, 0, 0, .int 0, [], []))]),
  (73, [(73, (.ireturn, 74, 0, 0, 0, .null, [], []))])]
def zc_Sheet_firstFault : zCd := zFd zl_Sheet_firstFault
def zl_Sheet_stampIn : List (Nat × List (Nat × zEnt)) := [(11, [(0, (.aload_n 0, 1, 0, 0, 0, .null, [], [])), (1, (.getfield 15, 4, 4, 2, 2, .null, [], [])), (4, (.iload_n 1, 5, 1, 0, 0, .null, [], [])), (5, (.laload, 6, 0, 0, 0, .null, [], [])), (6, (.lconst 0, 7, 0, 0, 0, .long 0, [], [])), (7, (.lcmp, 8, 0, 0, 0, .null, [], [])), (8, (.ifCond .ge 8, 11, 16, 0, 0, .null, [], [])), (11, (.bipush (-4), 13, 0, 0, 0, .int (-4), [], []))]),
  (23, [(13, (.goto 10, 16, 23, 0, 0, .null, [], [])), (16, (.aload_n 0, 17, 0, 0, 0, .null, [], [])), (17, (.getfield 15, 20, 4, 2, 2, .null, [], [])), (20, (.iload_n 1, 21, 1, 0, 0, .null, [], [])), (21, (.laload, 22, 0, 0, 0, .null, [], [])), (22, (.l2i, 23, 0, 0, 0, .null, [], [])), (23, (.ireturn, 24, 0, 0, 0, .null, [], []))])]
def zc_Sheet_stampIn : zCd := zFd zl_Sheet_stampIn
def zl_Tape_init : List (Nat × List (Nat × zEnt)) := [(13, [(0, (.aload_n 0, 1, 0, 0, 0, .null, [], [])), (1, (.invokespecial 1, 4, 0, 0, 0, .double 0, [], [])), (4, (.aload_n 0, 5, 0, 0, 0, .null, [], [])), (5, (.sipush 300, 8, 0, 0, 0, .int 300, [], [])), (8, (.newarray .byte, 10, 2, 0, 0, .null, [], [])), (10, (.putfield 9, 13, 5, 1, 2, .null, [], [])), (13, (.return_, 14, 0, 0, 0, .null, [], [1]))])]
def zc_Tape_init : zCd := zFd zl_Tape_init
def zl_Tape_append : List (Nat × List (Nat × zEnt)) := [(13, [(0, (.aload_n 0, 1, 0, 0, 0, .null, [], [])), (1, (.getfield 13, 4, 5, 0, 0, .null, [], [])), (4, (.sipush 300, 7, 0, 0, 0, .int 300, [], [])), (7, (.if_icmp .lt 5, 10, 12, 0, 0, .null, [], [])), (10, (.iconst 0, 11, 0, 0, 0, .int 0, [], [])), (11, (.ireturn, 12, 0, 0, 3, .null, [], [])), (12, (.aload_n 0, 13, 0, 0, 0, .null, [], [])), (13, (.getfield 9, 16, 5, 1, 2, .null, [], []))]),
  (25, [(16, (.aload_n 0, 17, 0, 0, 0, .null, [], [])), (17, (.getfield 13, 20, 5, 0, 0, .null, [], [])), (20, (.iload_n 1, 21, 1, 0, 0, .null, [], [])), (21, (.i2b, 22, 0, 0, 0, .null, [], [])), (22, (.bastore, 23, 2, 0, 0, .null, [], [])), (23, (.aload_n 0, 24, 0, 0, 0, .null, [], [])), (24, (.dup, 25, 0, 0, 0, .null, [], [])), (25, (.getfield 13, 28, 5, 0, 0, .null, [], []))]),
  (34, [(28, (.iconst 1, 29, 0, 0, 0, .int 1, [], [])), (29, (.iadd, 30, 0, 0, 0, .null, [], [])), (30, (.putfield 13, 33, 5, 0, 0, .null, [], [])), (33, (.iconst 1, 34, 0, 0, 0, .int 1, [], [])), (34, (.ireturn, 35, 0, 0, 3, .null, [], []))])]
def zc_Tape_append : zCd := zFd zl_Tape_append
def zl_Tape_byteAt : List (Nat × List (Nat × zEnt)) := [(13, [(0, (.iload_n 1, 1, 1, 0, 0, .null, [], [])), (1, (.ifCond .lt 20, 4, 21, 0, 0, .null, [], [])), (4, (.iload_n 1, 5, 1, 0, 0, .null, [], [])), (5, (.aload_n 0, 6, 0, 0, 0, .null, [], [])), (6, (.getfield 13, 9, 5, 0, 0, .null, [], [])), (9, (.if_icmp .ge 12, 12, 21, 0, 0, .null, [], [])), (12, (.aload_n 0, 13, 0, 0, 0, .null, [], [])), (13, (.getfield 9, 16, 5, 1, 2, .null, [], []))]),
  (22, [(16, (.iload_n 1, 17, 1, 0, 0, .null, [], [])), (17, (.baload, 18, 2, 0, 0, .null, [], [])), (18, (.goto 4, 21, 22, 0, 0, .null, [], [])), (21, (.iconst 0, 22, 0, 0, 0, .int 0, [], [])), (22, (.ireturn, 23, 0, 0, 0, .null, [], []))])]
def zc_Tape_byteAt : zCd := zFd zl_Tape_byteAt
def zl_Tape_behindRun : List (Nat × List (Nat × zEnt)) := [(14, [(0, (.iload_n 1, 1, 1, 0, 0, .null, [], [])), (1, (.istore 4, 3, 4, 0, 0, .null, [], [])), (3, (.iload 4, 5, 4, 0, 0, .null, [1], [])), (5, (.ifCond .lt 43, 8, 48, 0, 0, .null, [], [])), (8, (.iload 4, 10, 4, 0, 0, .null, [], [])), (10, (.aload_n 0, 11, 0, 0, 0, .null, [], [])), (11, (.getfield 13, 14, 5, 0, 0, .null, [], [])), (14, (.if_icmp .ge 34, 17, 48, 0, 0, .null, [], []))]),
  (29, [(17, (.aload_n 0, 18, 0, 0, 0, .null, [], [])), (18, (.getfield 9, 21, 5, 1, 2, .null, [], [])), (21, (.iload 4, 23, 4, 0, 0, .null, [], [])), (23, (.baload, 24, 2, 0, 0, .null, [], [])), (24, (.iload_n 2, 25, 2, 0, 0, .null, [], [])), (25, (.if_icmp .lt 14, 28, 39, 0, 0, .null, [], [])), (28, (.aload_n 0, 29, 0, 0, 0, .null, [], [])), (29, (.getfield 9, 32, 5, 1, 2, .null, [], []))]),
  (45, [(32, (.iload 4, 34, 4, 0, 0, .null, [], [])), (34, (.baload, 35, 2, 0, 0, .null, [], [])), (35, (.iload_n 3, 36, 3, 0, 0, .null, [], [])), (36, (.if_icmp .le 6, 39, 42, 0, 0, .null, [], [])), (39, (.iload 4, 41, 4, 0, 0, .null, [], [])), (41, (.ireturn, 42, 0, 0, 0, .null, [], [])), (42, (.iinc 4 1, 45, 4, 0, 0, .int 1, [], [])), (45, (.goto (-42), 48, 3, 0, 0, .null, [], []))]),
  (52, [(48, (.aload_n 0, 49, 0, 0, 0, .null, [], [])), (49, (.getfield 13, 52, 5, 0, 0, .null, [], [])), (52, (.ireturn, 53, 0, 0, 0, .null, [], []))])]
def zc_Tape_behindRun : zCd := zFd zl_Tape_behindRun
def zl_Text_init : List (Nat × List (Nat × zEnt)) := [(15, [(0, (.aload_n 0, 1, 0, 0, 0, .null, [], [])), (1, (.invokespecial 3, 4, 0, 0, 0, .double 0, [], [])), (4, (.aload_n 0, 5, 0, 0, 0, .null, [], [])), (5, (.new 9, 8, 5, 2, 0, .null, [], [0, 2])), (8, (.dup, 9, 0, 0, 0, .null, [], [])), (9, (.invokespecial 11, 12, 52, 1, 9, .null, [], [1, 300])), (12, (.putfield 12, 15, 6, 0, 2, .null, [], [])), (15, (.aload_n 0, 16, 0, 0, 0, .null, [], []))]),
  (26, [(16, (.new 18, 19, 0, 4, 0, .null, [], [0, 0, 0, 2])), (19, (.dup, 20, 0, 0, 0, .null, [], [])), (20, (.invokespecial 20, 23, 5, 1, 9, .null, [], [1, 112])), (23, (.putfield 21, 26, 6, 1, 2, .null, [], [])), (26, (.return_, 27, 0, 0, 0, .null, [], [1]))])]
def zc_Text_init : zCd := zFd zl_Text_init
def zl_Text_readAll : List (Nat × List (Nat × zEnt)) := [(11, [(0, (.aload_n 0, 1, 0, 0, 0, .null, [], [])), (1, (.aload_n 1, 2, 1, 0, 0, .null, [], [])), (2, (.invokevirtual 25, 5, 58, 2, 9, .ref 6, [], [])), (5, (.aload_n 0, 6, 0, 0, 0, .null, [], [])), (6, (.invokevirtual 29, 9, 59, 1, 0, .ref 6, [], [])), (9, (.istore_n 2, 10, 2, 0, 0, .null, [], [])), (10, (.iconst 0, 11, 0, 0, 0, .int 0, [], [])), (11, (.istore_n 3, 12, 3, 0, 0, .null, [], []))]),
  (27, [(12, (.iload_n 2, 13, 2, 0, 0, .null, [1], [])), (13, (.ifCond .eq 43, 16, 56, 0, 0, .null, [], [])), (16, (.iload_n 3, 17, 3, 0, 0, .null, [], [])), (17, (.sipush 300, 20, 0, 0, 0, .int 300, [], [])), (20, (.if_icmp .gt 36, 23, 56, 0, 0, .null, [], [])), (23, (.aload_n 0, 24, 0, 0, 0, .null, [], [])), (24, (.invokevirtual 33, 27, 67, 1, 0, .ref 6, [], [])), (27, (.ifCond .eq 21, 30, 48, 0, 0, .null, [], []))]),
  (45, [(30, (.aload_n 0, 31, 0, 0, 0, .null, [], [])), (31, (.getfield 36, 34, 6, 6, 0, .null, [], [])), (34, (.ifCond .eq 14, 37, 48, 0, 0, .null, [], [])), (37, (.aload_n 0, 38, 0, 0, 0, .null, [], [])), (38, (.invokevirtual 40, 41, 60, 1, 0, .ref 6, [], [])), (41, (.ifCond .eq 7, 44, 48, 0, 0, .null, [], [])), (44, (.iconst 1, 45, 0, 0, 0, .int 1, [], [])), (45, (.goto 4, 48, 49, 0, 0, .null, [], []))]),
  (63, [(48, (.iconst 0, 49, 0, 0, 0, .int 0, [], [])), (49, (.istore_n 2, 50, 2, 0, 0, .null, [], [])), (50, (.iinc 3 1, 53, 3, 0, 0, .int 1, [], [])), (53, (.goto (-41), 56, 12, 0, 0, .null, [], [])), (56, (.aload_n 0, 57, 0, 0, 0, .null, [], [])), (57, (.getfield 43, 60, 6, 2, 0, .null, [], [])), (60, (.ifCond .ne 7, 63, 67, 0, 0, .null, [], [])), (63, (.iconst 1, 64, 0, 0, 0, .int 1, [], []))]),
  (68, [(64, (.goto 4, 67, 68, 0, 0, .null, [], [])), (67, (.iconst 0, 68, 0, 0, 0, .int 0, [], [])), (68, (.ireturn, 69, 0, 0, 3, .null, [], []))])]
def zc_Text_readAll : zCd := zFd zl_Text_readAll
def zl_Text_startOver : List (Nat × List (Nat × zEnt)) := [(13, [(0, (.aload_n 0, 1, 0, 0, 0, .null, [], [])), (1, (.getfield 21, 4, 6, 1, 2, .null, [], [])), (4, (.iconst 1, 5, 0, 0, 0, .int 1, [], [])), (5, (.invokevirtual 46, 8, 9, 2, 9, .ref 0, [], [])), (8, (.aload_n 0, 9, 0, 0, 0, .null, [], [])), (9, (.getfield 21, 12, 6, 1, 2, .null, [], [])), (12, (.aload_n 1, 13, 1, 0, 0, .null, [], [])), (13, (.getfield 50, 16, 0, 1, 0, .null, [], []))]),
  (31, [(16, (.putfield 50, 19, 0, 1, 0, .null, [], [])), (19, (.aload_n 0, 20, 0, 0, 0, .null, [], [])), (20, (.getfield 21, 23, 6, 1, 2, .null, [], [])), (23, (.aload_n 1, 24, 1, 0, 0, .null, [], [])), (24, (.getfield 53, 27, 0, 2, 0, .null, [], [])), (27, (.putfield 53, 30, 0, 2, 0, .null, [], [])), (30, (.aload_n 0, 31, 0, 0, 0, .null, [], [])), (31, (.iconst 0, 32, 0, 0, 0, .int 0, [], []))]),
  (45, [(32, (.putfield 56, 35, 6, 4, 3, .null, [], [])), (35, (.aload_n 0, 36, 0, 0, 0, .null, [], [])), (36, (.iconst 0, 37, 0, 0, 0, .int 0, [], [])), (37, (.putfield 60, 40, 6, 5, 3, .null, [], [])), (40, (.aload_n 0, 41, 0, 0, 0, .null, [], [])), (41, (.iconst 0, 42, 0, 0, 0, .int 0, [], [])), (42, (.putfield 43, 45, 6, 2, 0, .null, [], [])), (45, (.aload_n 0, 46, 0, 0, 0, .null, [], []))]),
  (55, [(46, (.iconst 0, 47, 0, 0, 0, .int 0, [], [])), (47, (.putfield 63, 50, 6, 3, 0, .null, [], [])), (50, (.aload_n 0, 51, 0, 0, 0, .null, [], [])), (51, (.iconst 0, 52, 0, 0, 0, .int 0, [], [])), (52, (.putfield 66, 55, 6, 8, 0, .null, [], [])), (55, (.return_, 56, 0, 0, 0, .null, [], []))])]
def zc_Text_startOver : zCd := zFd zl_Text_startOver
def zl_Text_takeHead : List (Nat × List (Nat × zEnt)) := [(12, [(0, (.aload_n 0, 1, 0, 0, 0, .null, [], [])), (1, (.invokevirtual 33, 4, 67, 1, 0, .ref 6, [], [])), (4, (.ifCond .ne 5, 7, 9, 0, 0, .null, [], [])), (7, (.iconst 0, 8, 0, 0, 0, .int 0, [], [])), (8, (.ireturn, 9, 0, 0, 3, .null, [], [])), (9, (.aload_n 0, 10, 0, 0, 0, .null, [], [])), (10, (.ldc 69, 12, 0, 0, 0, .ref 1, [], [])), (12, (.invokevirtual 71, 15, 69, 2, 0, .ref 6, [], []))]),
  (26, [(15, (.ifCond .ne 9, 18, 24, 0, 0, .null, [], [])), (18, (.aload_n 0, 19, 0, 0, 0, .null, [], [])), (19, (.iconst 2, 20, 0, 0, 0, .int 2, [], [])), (20, (.invokevirtual 75, 23, 66, 2, 0, .ref 6, [], [])), (23, (.ireturn, 24, 0, 0, 3, .null, [], [])), (24, (.aload_n 0, 25, 0, 0, 0, .null, [], [])), (25, (.iconst 1, 26, 0, 0, 0, .int 1, [], [])), (26, (.bipush 7, 28, 0, 0, 0, .int 7, [], []))]),
  (41, [(28, (.invokevirtual 79, 31, 64, 3, 0, .ref 6, [], [])), (31, (.ifCond .ne 5, 34, 36, 0, 0, .null, [], [])), (34, (.iconst 0, 35, 0, 0, 0, .int 0, [], [])), (35, (.ireturn, 36, 0, 0, 3, .null, [], [])), (36, (.aload_n 0, 37, 0, 0, 0, .null, [], [])), (37, (.getfield 21, 40, 6, 1, 2, .null, [], [])), (40, (.aload_n 0, 41, 0, 0, 0, .null, [], [])), (41, (.getfield 83, 44, 6, 9, 0, .null, [], []))]),
  (51, [(44, (.putfield 86, 47, 0, 0, 0, .null, [], [])), (47, (.aload_n 0, 48, 0, 0, 0, .null, [], [])), (48, (.invokevirtual 88, 51, 65, 1, 0, .ref 6, [], [])), (51, (.ireturn, 52, 0, 0, 3, .null, [], []))])]
def zc_Text_takeHead : zCd := zFd zl_Text_takeHead
def zl_Text_takeLine : List (Nat × List (Nat × zEnt)) := [(14, [(0, (.aload_n 0, 1, 0, 0, 0, .null, [], [])), (1, (.ldc 91, 3, 0, 0, 0, .ref 2, [], [])), (3, (.invokevirtual 71, 6, 69, 2, 0, .ref 6, [], [])), (6, (.ifCond .eq 8, 9, 14, 0, 0, .null, [], [])), (9, (.aload_n 0, 10, 0, 0, 0, .null, [], [])), (10, (.invokevirtual 93, 13, 61, 1, 0, .ref 6, [], [])), (13, (.ireturn, 14, 0, 0, 3, .null, [], [])), (14, (.aload_n 0, 15, 0, 0, 0, .null, [], []))]),
  (29, [(15, (.ldc 96, 17, 0, 0, 0, .ref 3, [], [])), (17, (.invokevirtual 71, 20, 69, 2, 0, .ref 6, [], [])), (20, (.ifCond .eq 8, 23, 28, 0, 0, .null, [], [])), (23, (.aload_n 0, 24, 0, 0, 0, .null, [], [])), (24, (.invokevirtual 97, 27, 62, 1, 0, .ref 6, [], [])), (27, (.ireturn, 28, 0, 0, 3, .null, [], [])), (28, (.aload_n 0, 29, 0, 0, 0, .null, [], [])), (29, (.ldc 100, 31, 0, 0, 0, .ref 4, [], []))]),
  (44, [(31, (.invokevirtual 71, 34, 69, 2, 0, .ref 6, [], [])), (34, (.ifCond .eq 8, 37, 42, 0, 0, .null, [], [])), (37, (.aload_n 0, 38, 0, 0, 0, .null, [], [])), (38, (.invokevirtual 101, 41, 63, 1, 0, .ref 6, [], [])), (41, (.ireturn, 42, 0, 0, 3, .null, [], [])), (42, (.aload_n 0, 43, 0, 0, 0, .null, [], [])), (43, (.iconst 2, 44, 0, 0, 0, .int 2, [], [])), (44, (.invokevirtual 75, 47, 66, 2, 0, .ref 6, [], []))]),
  (47, [(47, (.ireturn, 48, 0, 0, 3, .null, [], []))])]
def zc_Text_takeLine : zCd := zFd zl_Text_takeLine
def zl_Text_takeHear : List (Nat × List (Nat × zEnt)) := [(12, [(0, (.aload_n 0, 1, 0, 0, 0, .null, [], [])), (1, (.iconst 0, 2, 0, 0, 0, .int 0, [], [])), (2, (.bipush 15, 4, 0, 0, 0, .int 15, [], [])), (4, (.invokevirtual 79, 7, 64, 3, 0, .ref 6, [], [])), (7, (.ifCond .ne 5, 10, 12, 0, 0, .null, [], [])), (10, (.iconst 0, 11, 0, 0, 0, .int 0, [], [])), (11, (.ireturn, 12, 0, 0, 3, .null, [], [])), (12, (.aload_n 0, 13, 0, 0, 0, .null, [], []))]),
  (26, [(13, (.getfield 83, 16, 6, 9, 0, .null, [], [])), (16, (.istore_n 1, 17, 1, 0, 0, .null, [], [])), (17, (.aload_n 0, 18, 0, 0, 0, .null, [2], [])), (18, (.iconst 0, 19, 0, 0, 0, .int 0, [], [])), (19, (.aload_n 0, 20, 0, 0, 0, .null, [], [])), (20, (.getfield 21, 23, 6, 1, 2, .null, [], [])), (23, (.getfield 86, 26, 0, 0, 0, .null, [], [])), (26, (.iconst 1, 27, 0, 0, 0, .int 1, [], []))]),
  (40, [(27, (.isub, 28, 0, 0, 0, .null, [], [])), (28, (.invokevirtual 79, 31, 64, 3, 0, .ref 6, [], [])), (31, (.ifCond .ne 5, 34, 36, 0, 0, .null, [], [])), (34, (.iconst 0, 35, 0, 0, 0, .int 0, [], [])), (35, (.ireturn, 36, 0, 0, 3, .null, [], [])), (36, (.aload_n 0, 37, 0, 0, 0, .null, [], [])), (37, (.getfield 83, 40, 6, 9, 0, .null, [], [])), (40, (.istore_n 2, 41, 2, 0, 0, .null, [], []))]),
  (55, [(41, (.aload_n 0, 42, 0, 0, 0, .null, [], [])), (42, (.getfield 21, 45, 6, 1, 2, .null, [], [])), (45, (.iload_n 1, 46, 1, 0, 0, .null, [], [])), (46, (.iload_n 2, 47, 2, 0, 0, .null, [], [])), (47, (.invokevirtual 104, 50, 7, 3, 0, .ref 0, [], [])), (50, (.bipush (-4), 52, 0, 0, 0, .int (-4), [], [])), (52, (.if_icmp .eq 9, 55, 61, 0, 0, .null, [], [])), (55, (.aload_n 0, 56, 0, 0, 0, .null, [], []))]),
  (69, [(56, (.iconst 4, 57, 0, 0, 0, .int 4, [], [])), (57, (.invokevirtual 75, 60, 66, 2, 0, .ref 6, [], [])), (60, (.ireturn, 61, 0, 0, 3, .null, [], [])), (61, (.aload_n 0, 62, 0, 0, 0, .null, [], [])), (62, (.iconst 0, 63, 0, 0, 0, .int 0, [], [])), (63, (.sipush 9999, 66, 0, 0, 0, .int 9999, [], [])), (66, (.invokevirtual 79, 69, 64, 3, 0, .ref 6, [], [])), (69, (.ifCond .ne 5, 72, 74, 0, 0, .null, [], []))]),
  (81, [(72, (.iconst 0, 73, 0, 0, 0, .int 0, [], [])), (73, (.ireturn, 74, 0, 0, 3, .null, [], [])), (74, (.aload_n 0, 75, 0, 0, 0, .null, [], [])), (75, (.getfield 21, 78, 6, 1, 2, .null, [], [])), (78, (.iload_n 1, 79, 1, 0, 0, .null, [], [])), (79, (.iload_n 2, 80, 2, 0, 0, .null, [], [])), (80, (.aload_n 0, 81, 0, 0, 0, .null, [], [])), (81, (.getfield 83, 84, 6, 9, 0, .null, [], []))]),
  (91, [(84, (.invokevirtual 108, 87, 8, 4, 9, .ref 0, [], [])), (87, (.aload_n 0, 88, 0, 0, 0, .null, [], [])), (88, (.invokevirtual 88, 91, 65, 1, 0, .ref 6, [], [])), (91, (.ireturn, 92, 0, 0, 3, .null, [], []))])]
def zc_Text_takeHear : zCd := zFd zl_Text_takeHear
def zl_Text_takeLimit : List (Nat × List (Nat × zEnt)) := [(13, [(0, (.aload_n 0, 1, 0, 0, 0, .null, [], [])), (1, (.getfield 56, 4, 6, 4, 0, .null, [], [])), (4, (.ifCond .eq 9, 7, 13, 0, 0, .null, [], [])), (7, (.aload_n 0, 8, 0, 0, 0, .null, [], [])), (8, (.iconst 4, 9, 0, 0, 0, .int 4, [], [])), (9, (.invokevirtual 75, 12, 66, 2, 0, .ref 6, [], [])), (12, (.ireturn, 13, 0, 0, 3, .null, [], [])), (13, (.aload_n 0, 14, 0, 0, 0, .null, [], []))]),
  (28, [(14, (.iconst 1, 15, 0, 0, 0, .int 1, [], [])), (15, (.putfield 56, 18, 6, 4, 3, .null, [], [])), (18, (.aload_n 0, 19, 0, 0, 0, .null, [], [])), (19, (.iconst 0, 20, 0, 0, 0, .int 0, [], [])), (20, (.bipush 99, 22, 0, 0, 0, .int 99, [], [])), (22, (.invokevirtual 79, 25, 64, 3, 0, .ref 6, [], [])), (25, (.ifCond .ne 5, 28, 30, 0, 0, .null, [], [])), (28, (.iconst 0, 29, 0, 0, 0, .int 0, [], []))]),
  (42, [(29, (.ireturn, 30, 0, 0, 3, .null, [], [])), (30, (.aload_n 0, 31, 0, 0, 0, .null, [], [])), (31, (.getfield 21, 34, 6, 1, 2, .null, [], [])), (34, (.aload_n 0, 35, 0, 0, 0, .null, [], [])), (35, (.getfield 83, 38, 6, 9, 0, .null, [], [])), (38, (.putfield 50, 41, 0, 1, 0, .null, [], [])), (41, (.aload_n 0, 42, 0, 0, 0, .null, [], [])), (42, (.invokevirtual 88, 45, 65, 1, 0, .ref 6, [], []))]),
  (45, [(45, (.ireturn, 46, 0, 0, 3, .null, [], []))])]
def zc_Text_takeLimit : zCd := zFd zl_Text_takeLimit
def zl_Text_takeLeast : List (Nat × List (Nat × zEnt)) := [(13, [(0, (.aload_n 0, 1, 0, 0, 0, .null, [], [])), (1, (.getfield 60, 4, 6, 5, 0, .null, [], [])), (4, (.ifCond .eq 9, 7, 13, 0, 0, .null, [], [])), (7, (.aload_n 0, 8, 0, 0, 0, .null, [], [])), (8, (.iconst 4, 9, 0, 0, 0, .int 4, [], [])), (9, (.invokevirtual 75, 12, 66, 2, 0, .ref 6, [], [])), (12, (.ireturn, 13, 0, 0, 3, .null, [], [])), (13, (.aload_n 0, 14, 0, 0, 0, .null, [], []))]),
  (28, [(14, (.iconst 1, 15, 0, 0, 0, .int 1, [], [])), (15, (.putfield 60, 18, 6, 5, 3, .null, [], [])), (18, (.aload_n 0, 19, 0, 0, 0, .null, [], [])), (19, (.iconst 2, 20, 0, 0, 0, .int 2, [], [])), (20, (.bipush 6, 22, 0, 0, 0, .int 6, [], [])), (22, (.invokevirtual 79, 25, 64, 3, 0, .ref 6, [], [])), (25, (.ifCond .ne 5, 28, 30, 0, 0, .null, [], [])), (28, (.iconst 0, 29, 0, 0, 0, .int 0, [], []))]),
  (42, [(29, (.ireturn, 30, 0, 0, 3, .null, [], [])), (30, (.aload_n 0, 31, 0, 0, 0, .null, [], [])), (31, (.getfield 21, 34, 6, 1, 2, .null, [], [])), (34, (.aload_n 0, 35, 0, 0, 0, .null, [], [])), (35, (.getfield 83, 38, 6, 9, 0, .null, [], [])), (38, (.putfield 53, 41, 0, 2, 0, .null, [], [])), (41, (.aload_n 0, 42, 0, 0, 0, .null, [], [])), (42, (.invokevirtual 88, 45, 65, 1, 0, .ref 6, [], []))]),
  (45, [(45, (.ireturn, 46, 0, 0, 3, .null, [], []))])]
def zc_Text_takeLeast : zCd := zFd zl_Text_takeLeast
def zl_Text_takeNumber : List (Nat × List (Nat × zEnt)) := [(13, [(0, (.aload_n 0, 1, 0, 0, 0, .null, [], [])), (1, (.invokevirtual 33, 4, 67, 1, 0, .ref 6, [], [])), (4, (.ifCond .ne 5, 7, 9, 0, 0, .null, [], [])), (7, (.iconst 0, 8, 0, 0, 0, .int 0, [], [])), (8, (.ireturn, 9, 0, 0, 3, .null, [], [])), (9, (.aload_n 0, 10, 0, 0, 0, .null, [], [])), (10, (.getfield 36, 13, 6, 6, 0, .null, [], [])), (13, (.iconst 2, 14, 0, 0, 0, .int 2, [], []))]),
  (27, [(14, (.if_icmp .eq 9, 17, 23, 0, 0, .null, [], [])), (17, (.aload_n 0, 18, 0, 0, 0, .null, [], [])), (18, (.iconst 2, 19, 0, 0, 0, .int 2, [], [])), (19, (.invokevirtual 75, 22, 66, 2, 0, .ref 6, [], [])), (22, (.ireturn, 23, 0, 0, 3, .null, [], [])), (23, (.aload_n 0, 24, 0, 0, 0, .null, [], [])), (24, (.invokevirtual 112, 27, 68, 1, 9, .ref 6, [], [])), (27, (.aload_n 0, 28, 0, 0, 0, .null, [], []))]),
  (43, [(28, (.getfield 83, 31, 6, 9, 0, .null, [], [])), (31, (.iload_n 1, 32, 1, 0, 0, .null, [], [])), (32, (.if_icmp .lt 11, 35, 43, 0, 0, .null, [], [])), (35, (.aload_n 0, 36, 0, 0, 0, .null, [], [])), (36, (.getfield 83, 39, 6, 9, 0, .null, [], [])), (39, (.iload_n 2, 40, 2, 0, 0, .null, [], [])), (40, (.if_icmp .le 11, 43, 51, 0, 0, .null, [], [])), (43, (.aload_n 0, 44, 0, 0, 0, .null, [], []))]),
  (56, [(44, (.iconst 3, 45, 0, 0, 0, .int 3, [], [])), (45, (.invokevirtual 75, 48, 66, 2, 0, .ref 6, [], [])), (48, (.ifCond .eq 7, 51, 55, 0, 0, .null, [], [])), (51, (.iconst 1, 52, 0, 0, 0, .int 1, [], [])), (52, (.goto 4, 55, 56, 0, 0, .null, [], [])), (55, (.iconst 0, 56, 0, 0, 0, .int 0, [], [])), (56, (.ireturn, 57, 0, 0, 3, .null, [], []))])]
def zc_Text_takeNumber : zCd := zFd zl_Text_takeNumber
def zl_Text_takeSign : List (Nat × List (Nat × zEnt)) := [(15, [(0, (.aload_n 0, 1, 0, 0, 0, .null, [], [])), (1, (.invokevirtual 33, 4, 67, 1, 0, .ref 6, [], [])), (4, (.ifCond .eq 23, 7, 27, 0, 0, .null, [], [])), (7, (.aload_n 0, 8, 0, 0, 0, .null, [], [])), (8, (.getfield 36, 11, 6, 6, 0, .null, [], [])), (11, (.iconst 3, 12, 0, 0, 0, .int 3, [], [])), (12, (.if_icmp .eq 11, 15, 23, 0, 0, .null, [], [])), (15, (.aload_n 0, 16, 0, 0, 0, .null, [], []))]),
  (28, [(16, (.iconst 2, 17, 0, 0, 0, .int 2, [], [])), (17, (.invokevirtual 75, 20, 66, 2, 0, .ref 6, [], [])), (20, (.ifCond .eq 7, 23, 27, 0, 0, .null, [], [])), (23, (.iconst 1, 24, 0, 0, 0, .int 1, [], [])), (24, (.goto 4, 27, 28, 0, 0, .null, [], [])), (27, (.iconst 0, 28, 0, 0, 0, .int 0, [], [])), (28, (.ireturn, 29, 0, 0, 3, .null, [], []))])]
def zc_Text_takeSign : zCd := zFd zl_Text_takeSign
def zl_Text_refuse : List (Nat × List (Nat × zEnt)) := [(13, [(0, (.aload_n 0, 1, 0, 0, 0, .null, [], [])), (1, (.iload_n 1, 2, 1, 0, 0, .null, [], [])), (2, (.putfield 43, 5, 6, 2, 0, .null, [], [])), (5, (.aload_n 0, 6, 0, 0, 0, .null, [], [])), (6, (.aload_n 0, 7, 0, 0, 0, .null, [], [])), (7, (.getfield 115, 10, 6, 7, 0, .null, [], [])), (10, (.putfield 63, 13, 6, 3, 0, .null, [], [])), (13, (.iconst 0, 14, 0, 0, 0, .int 0, [], []))]),
  (14, [(14, (.ireturn, 15, 0, 0, 3, .null, [], []))])]
def zc_Text_refuse : zCd := zFd zl_Text_refuse
def zl_Text_nextToken : List (Nat × List (Nat × zEnt)) := [(19, [(0, (.aload_n 0, 1, 0, 0, 0, .null, [], [])), (1, (.aload_n 0, 2, 0, 0, 0, .null, [], [])), (2, (.getfield 12, 5, 6, 0, 2, .null, [], [])), (5, (.aload_n 0, 6, 0, 0, 0, .null, [], [])), (6, (.getfield 66, 9, 6, 8, 0, .null, [], [])), (9, (.bipush 32, 11, 0, 0, 0, .int 32, [], [])), (11, (.bipush 32, 13, 0, 0, 0, .int 32, [], [])), (13, (.invokevirtual 118, 16, 55, 4, 0, .ref 5, [], [])), (16, (.putfield 115, 19, 6, 7, 0, .null, [], [])), (19, (.aload_n 0, 20, 0, 0, 0, .null, [1], []))]),
  (41, [(20, (.aload_n 0, 21, 0, 0, 0, .null, [], [])), (21, (.getfield 115, 24, 6, 7, 0, .null, [], [])), (24, (.putfield 66, 27, 6, 8, 0, .null, [], [])), (27, (.aload_n 0, 28, 0, 0, 0, .null, [], [])), (28, (.getfield 115, 31, 6, 7, 0, .null, [], [])), (31, (.aload_n 0, 32, 0, 0, 0, .null, [], [])), (32, (.getfield 12, 35, 6, 0, 2, .null, [], [])), (35, (.getfield 122, 38, 5, 0, 0, .null, [], [])), (38, (.if_icmp .ne 10, 41, 48, 0, 0, .null, [], [])), (41, (.aload_n 0, 42, 0, 0, 0, .null, [], []))]),
  (59, [(42, (.iconst 0, 43, 0, 0, 0, .int 0, [], [])), (43, (.putfield 36, 46, 6, 6, 0, .null, [], [])), (46, (.iconst 1, 47, 0, 0, 0, .int 1, [], [])), (47, (.ireturn, 48, 0, 0, 3, .null, [], [])), (48, (.aload_n 0, 49, 0, 0, 0, .null, [], [])), (49, (.getfield 12, 52, 6, 0, 2, .null, [], [])), (52, (.aload_n 0, 53, 0, 0, 0, .null, [], [])), (53, (.getfield 115, 56, 6, 7, 0, .null, [], [])), (56, (.invokevirtual 125, 59, 54, 2, 0, .ref 5, [], [])), (59, (.istore_n 1, 60, 1, 0, 0, .null, [], []))]),
  (77, [(60, (.iload_n 1, 61, 1, 0, 0, .null, [], [])), (61, (.bipush 97, 63, 0, 0, 0, .int 97, [], [])), (63, (.if_icmp .lt 35, 66, 98, 0, 0, .null, [], [])), (66, (.iload_n 1, 67, 1, 0, 0, .null, [], [])), (67, (.bipush 122, 69, 0, 0, 0, .int 122, [], [])), (69, (.if_icmp .gt 29, 72, 98, 0, 0, .null, [], [])), (72, (.aload_n 0, 73, 0, 0, 0, .null, [], [])), (73, (.iconst 1, 74, 0, 0, 0, .int 1, [], [])), (74, (.putfield 36, 77, 6, 6, 0, .null, [], [])), (77, (.aload_n 0, 78, 0, 0, 0, .null, [], []))]),
  (97, [(78, (.aload_n 0, 79, 0, 0, 0, .null, [], [])), (79, (.getfield 12, 82, 6, 0, 2, .null, [], [])), (82, (.aload_n 0, 83, 0, 0, 0, .null, [], [])), (83, (.getfield 115, 86, 6, 7, 0, .null, [], [])), (86, (.bipush 97, 88, 0, 0, 0, .int 97, [], [])), (88, (.bipush 122, 90, 0, 0, 0, .int 122, [], [])), (90, (.invokevirtual 118, 93, 55, 4, 0, .ref 5, [], [])), (93, (.putfield 66, 96, 6, 8, 0, .null, [], [])), (96, (.iconst 1, 97, 0, 0, 0, .int 1, [], [])), (97, (.ireturn, 98, 0, 0, 3, .null, [], []))]),
  (115, [(98, (.iload_n 1, 99, 1, 0, 0, .null, [], [])), (99, (.bipush 48, 101, 0, 0, 0, .int 48, [], [])), (101, (.if_icmp .lt 60, 104, 161, 0, 0, .null, [], [])), (104, (.iload_n 1, 105, 1, 0, 0, .null, [], [])), (105, (.bipush 57, 107, 0, 0, 0, .int 57, [], [])), (107, (.if_icmp .gt 54, 110, 161, 0, 0, .null, [], [])), (110, (.aload_n 0, 111, 0, 0, 0, .null, [], [])), (111, (.iconst 2, 112, 0, 0, 0, .int 2, [], [])), (112, (.putfield 36, 115, 6, 6, 0, .null, [], [])), (115, (.aload_n 0, 116, 0, 0, 0, .null, [], []))]),
  (135, [(116, (.aload_n 0, 117, 0, 0, 0, .null, [], [])), (117, (.getfield 12, 120, 6, 0, 2, .null, [], [])), (120, (.aload_n 0, 121, 0, 0, 0, .null, [], [])), (121, (.getfield 115, 124, 6, 7, 0, .null, [], [])), (124, (.bipush 48, 126, 0, 0, 0, .int 48, [], [])), (126, (.bipush 57, 128, 0, 0, 0, .int 57, [], [])), (128, (.invokevirtual 118, 131, 55, 4, 0, .ref 5, [], [])), (131, (.putfield 66, 134, 6, 8, 0, .null, [], [])), (134, (.aload_n 0, 135, 0, 0, 0, .null, [], [])), (135, (.getfield 66, 138, 6, 8, 0, .null, [], []))]),
  (155, [(138, (.aload_n 0, 139, 0, 0, 0, .null, [], [])), (139, (.getfield 115, 142, 6, 7, 0, .null, [], [])), (142, (.isub, 143, 0, 0, 0, .null, [], [])), (143, (.iconst 4, 144, 0, 0, 0, .int 4, [], [])), (144, (.if_icmp .le 11, 147, 155, 0, 0, .null, [], [])), (147, (.aload_n 0, 148, 0, 0, 0, .null, [], [])), (148, (.iconst 1, 149, 0, 0, 0, .int 1, [], [])), (149, (.invokevirtual 75, 152, 66, 2, 0, .ref 6, [], [])), (152, (.ifCond .eq 7, 155, 159, 0, 0, .null, [], [])), (155, (.iconst 1, 156, 0, 0, 0, .int 1, [], []))]),
  (171, [(156, (.goto 4, 159, 160, 0, 0, .null, [], [])), (159, (.iconst 0, 160, 0, 0, 0, .int 0, [], [])), (160, (.ireturn, 161, 0, 0, 3, .null, [], [])), (161, (.aload_n 0, 162, 0, 0, 0, .null, [], [])), (162, (.iconst 3, 163, 0, 0, 0, .int 3, [], [])), (163, (.putfield 36, 166, 6, 6, 0, .null, [], [])), (166, (.aload_n 0, 167, 0, 0, 0, .null, [], [])), (167, (.aload_n 0, 168, 0, 0, 0, .null, [], [])), (168, (.getfield 115, 171, 6, 7, 0, .null, [], [])), (171, (.iconst 1, 172, 0, 0, 0, .int 1, [], []))]),
  (190, [(172, (.iadd, 173, 0, 0, 0, .null, [], [])), (173, (.putfield 66, 176, 6, 8, 0, .null, [], [])), (176, (.iload_n 1, 177, 1, 0, 0, .null, [], [])), (177, (.bipush 59, 179, 0, 0, 0, .int 59, [], [])), (179, (.if_icmp .eq 11, 182, 190, 0, 0, .null, [], [])), (182, (.aload_n 0, 183, 0, 0, 0, .null, [], [])), (183, (.iconst 1, 184, 0, 0, 0, .int 1, [], [])), (184, (.invokevirtual 75, 187, 66, 2, 0, .ref 6, [], [])), (187, (.ifCond .eq 7, 190, 194, 0, 0, .null, [], [])), (190, (.iconst 1, 191, 0, 0, 0, .int 1, [], []))]),
  (195, [(191, (.goto 4, 194, 195, 0, 0, .null, [], [])), (194, (.iconst 0, 195, 0, 0, 0, .int 0, [], [])), (195, (.ireturn, 196, 0, 0, 3, .null, [], []))])]
def zc_Text_nextToken : zCd := zFd zl_Text_nextToken
def zl_Text_evaluate : List (Nat × List (Nat × zEnt)) := [(11, [(0, (.aload_n 0, 1, 0, 0, 0, .null, [], [])), (1, (.iconst 0, 2, 0, 0, 0, .int 0, [], [])), (2, (.putfield 83, 5, 6, 9, 0, .null, [], [])), (5, (.aload_n 0, 6, 0, 0, 0, .null, [], [])), (6, (.getfield 115, 9, 6, 7, 0, .null, [], [])), (9, (.istore_n 1, 10, 1, 0, 0, .null, [], [])), (10, (.iload_n 1, 11, 1, 0, 0, .null, [], [])), (11, (.aload_n 0, 12, 0, 0, 0, .null, [], []))]),
  (26, [(12, (.getfield 66, 15, 6, 8, 0, .null, [], [])), (15, (.if_icmp .ge 32, 18, 47, 0, 0, .null, [], [])), (18, (.aload_n 0, 19, 0, 0, 0, .null, [], [])), (19, (.aload_n 0, 20, 0, 0, 0, .null, [], [])), (20, (.getfield 83, 23, 6, 9, 0, .null, [], [])), (23, (.bipush 10, 25, 0, 0, 0, .int 10, [], [])), (25, (.imul, 26, 0, 0, 0, .null, [], [])), (26, (.aload_n 0, 27, 0, 0, 0, .null, [], []))]),
  (41, [(27, (.getfield 12, 30, 6, 0, 2, .null, [], [])), (30, (.iload_n 1, 31, 1, 0, 0, .null, [], [])), (31, (.invokevirtual 125, 34, 54, 2, 0, .ref 5, [], [])), (34, (.bipush 48, 36, 0, 0, 0, .int 48, [], [])), (36, (.isub, 37, 0, 0, 0, .null, [], [])), (37, (.iadd, 38, 0, 0, 0, .null, [], [])), (38, (.putfield 83, 41, 6, 9, 0, .null, [], [])), (41, (.iinc 1 1, 44, 1, 0, 0, .int 1, [], []))]),
  (47, [(44, (.goto (-34), 47, 10, 0, 0, .null, [], [])), (47, (.return_, 48, 0, 0, 0, .null, [], []))])]
def zc_Text_evaluate : zCd := zFd zl_Text_evaluate
def zl_Text_isName : List (Nat × List (Nat × zEnt)) := [(13, [(0, (.aload_n 0, 1, 0, 0, 0, .null, [], [])), (1, (.getfield 36, 4, 6, 6, 0, .null, [], [])), (4, (.iconst 1, 5, 0, 0, 0, .int 1, [], [])), (5, (.if_icmp .ne 19, 8, 24, 0, 0, .null, [], [])), (8, (.aload_n 0, 9, 0, 0, 0, .null, [], [])), (9, (.getfield 66, 12, 6, 8, 0, .null, [], [])), (12, (.aload_n 0, 13, 0, 0, 0, .null, [], [])), (13, (.getfield 115, 16, 6, 7, 0, .null, [], []))]),
  (27, [(16, (.isub, 17, 0, 0, 0, .null, [], [])), (17, (.aload_n 1, 18, 1, 0, 0, .null, [], [])), (18, (.invokevirtual 129, 21, 0, 0, 0, .double 0, [], [])), (21, (.if_icmp .eq 5, 24, 26, 0, 0, .null, [], [])), (24, (.iconst 0, 25, 0, 0, 0, .int 0, [], [])), (25, (.ireturn, 26, 0, 0, 3, .null, [], [])), (26, (.iconst 0, 27, 0, 0, 0, .int 0, [], [])), (27, (.istore_n 2, 28, 2, 0, 0, .null, [], []))]),
  (41, [(28, (.iload_n 2, 29, 2, 0, 0, .null, [], [])), (29, (.aload_n 1, 30, 1, 0, 0, .null, [], [])), (30, (.invokevirtual 129, 33, 0, 0, 0, .double 0, [], [])), (33, (.if_icmp .ge 32, 36, 65, 0, 0, .null, [], [])), (36, (.aload_n 0, 37, 0, 0, 0, .null, [], [])), (37, (.getfield 12, 40, 6, 0, 2, .null, [], [])), (40, (.aload_n 0, 41, 0, 0, 0, .null, [], [])), (41, (.getfield 115, 44, 6, 7, 0, .null, [], []))]),
  (57, [(44, (.iload_n 2, 45, 2, 0, 0, .null, [], [])), (45, (.iadd, 46, 0, 0, 0, .null, [], [])), (46, (.invokevirtual 125, 49, 54, 2, 0, .ref 5, [], [])), (49, (.aload_n 1, 50, 1, 0, 0, .null, [], [])), (50, (.iload_n 2, 51, 2, 0, 0, .null, [], [])), (51, (.invokevirtual 134, 54, 0, 1, 0, .double 0, [], [])), (54, (.if_icmp .eq 5, 57, 59, 0, 0, .null, [], [])), (57, (.iconst 0, 58, 0, 0, 0, .int 0, [], []))]),
  (66, [(58, (.ireturn, 59, 0, 0, 3, .null, [], [])), (59, (.iinc 2 1, 62, 2, 0, 0, .int 1, [], [])), (62, (.goto (-34), 65, 28, 0, 0, .null, [], [])), (65, (.iconst 1, 66, 0, 0, 0, .int 1, [], [])), (66, (.ireturn, 67, 0, 0, 3, .null, [], []))])]
def zc_Text_isName : zCd := zFd zl_Text_isName
def zl_Time_init : List (Nat × List (Nat × zEnt)) := [(4, [(0, (.aload_n 0, 1, 0, 0, 0, .null, [], [])), (1, (.invokespecial 3, 4, 0, 0, 0, .double 0, [], [])), (4, (.return_, 5, 0, 0, 0, .null, [], []))])]
def zc_Time_init : zCd := zFd zl_Time_init
def zl_Time_startAt : List (Nat × List (Nat × zEnt)) := [(10, [(0, (.aload_n 0, 1, 0, 0, 0, .null, [], [])), (1, (.lload_n 1, 2, 1, 0, 0, .null, [], [])), (2, (.putfield 9, 5, 7, 0, 1, .null, [], [])), (5, (.aload_n 0, 6, 0, 0, 0, .null, [], [])), (6, (.iconst 0, 7, 0, 0, 0, .int 0, [], [])), (7, (.putfield 15, 10, 7, 1, 3, .null, [], [])), (10, (.return_, 11, 0, 0, 0, .null, [], []))])]
def zc_Time_startAt : zCd := zFd zl_Time_startAt
def zl_Time_takeBy : List (Nat × List (Nat × zEnt)) := [(11, [(0, (.aload_n 0, 1, 0, 0, 0, .null, [], [])), (1, (.aload_n 0, 2, 0, 0, 0, .null, [], [])), (2, (.aload_n 1, 3, 1, 0, 0, .null, [], [])), (3, (.getfield 19, 6, 3, 2, 0, .null, [], [])), (6, (.i2l, 7, 0, 0, 0, .null, [], [])), (7, (.aload_n 0, 8, 0, 0, 0, .null, [], [])), (8, (.getfield 9, 11, 7, 0, 1, .null, [], [])), (11, (.invokevirtual 25, 14, 74, 3, 1, .ref 7, [], []))]),
  (27, [(14, (.ldc2_w 29, 17, 0, 0, 0, .long 256, [], [])), (17, (.aload_n 1, 18, 1, 0, 0, .null, [], [])), (18, (.getfield 31, 21, 3, 3, 1, .null, [], [])), (21, (.lmul, 22, 0, 0, 0, .null, [], [])), (22, (.invokevirtual 34, 25, 76, 3, 1, .ref 7, [], [])), (25, (.lstore_n 2, 26, 2, 0, 0, .null, [], [])), (26, (.aload_n 0, 27, 0, 0, 0, .null, [], [])), (27, (.aload_n 0, 28, 0, 0, 0, .null, [], []))]),
  (43, [(28, (.aload_n 1, 29, 1, 0, 0, .null, [], [])), (29, (.getfield 37, 32, 3, 6, 1, .null, [], [])), (32, (.lload_n 2, 33, 2, 0, 0, .null, [], [])), (33, (.invokevirtual 25, 36, 74, 3, 1, .ref 7, [], [])), (36, (.ldc2_w 29, 39, 0, 0, 0, .long 256, [], [])), (39, (.aload_n 1, 40, 1, 0, 0, .null, [], [])), (40, (.getfield 40, 43, 3, 4, 1, .null, [], [])), (43, (.lmul, 44, 0, 0, 0, .null, [], []))]),
  (57, [(44, (.aload_n 1, 45, 1, 0, 0, .null, [], [])), (45, (.getfield 43, 48, 3, 5, 1, .null, [], [])), (48, (.lmul, 49, 0, 0, 0, .null, [], [])), (49, (.invokevirtual 46, 52, 75, 3, 1, .ref 7, [], [])), (52, (.lstore 4, 54, 4, 0, 0, .null, [], [])), (54, (.aload_n 0, 55, 0, 0, 0, .null, [], [])), (55, (.lload 4, 57, 4, 0, 0, .null, [], [])), (57, (.aload_n 1, 58, 1, 0, 0, .null, [], []))]),
  (67, [(58, (.getfield 49, 61, 3, 7, 1, .null, [], [])), (61, (.invokestatic 52, 64, 77, 2, 1, .null, [], [])), (64, (.putfield 9, 67, 7, 0, 1, .null, [], [])), (67, (.return_, 68, 0, 0, 0, .null, [], []))])]
def zc_Time_takeBy : zCd := zFd zl_Time_takeBy
def zl_Time_subtract : List (Nat × List (Nat × zEnt)) := [(13, [(0, (.aload_n 0, 1, 0, 0, 0, .null, [], [])), (1, (.aload_n 0, 2, 0, 0, 0, .null, [], [])), (2, (.aload_n 0, 3, 0, 0, 0, .null, [], [])), (3, (.getfield 9, 6, 7, 0, 1, .null, [], [])), (6, (.lload_n 1, 7, 1, 0, 0, .null, [], [])), (7, (.invokevirtual 34, 10, 76, 3, 1, .ref 7, [], [])), (10, (.putfield 9, 13, 7, 0, 1, .null, [], [])), (13, (.return_, 14, 0, 0, 0, .null, [], []))])]
def zc_Time_subtract : zCd := zFd zl_Time_subtract
def zl_Time_product : List (Nat × List (Nat × zEnt)) := [(8, [(0, (.lload_n 1, 1, 1, 0, 0, .null, [], [])), (1, (.lload_n 3, 2, 3, 0, 0, .null, [], [])), (2, (.lmul, 3, 0, 0, 0, .null, [], [])), (3, (.lstore 5, 5, 5, 0, 0, .null, [], [])), (5, (.lload_n 3, 6, 3, 0, 0, .null, [], [])), (6, (.lconst 0, 7, 0, 0, 0, .long 0, [], [])), (7, (.lcmp, 8, 0, 0, 0, .null, [], [])), (8, (.ifCond .eq 17, 11, 25, 0, 0, .null, [], []))]),
  (21, [(11, (.lload 5, 13, 5, 0, 0, .null, [], [])), (13, (.lload_n 3, 14, 3, 0, 0, .null, [], [])), (14, (.ldiv, 15, 0, 0, 0, .null, [], [])), (15, (.lload_n 1, 16, 1, 0, 0, .null, [], [])), (16, (.lcmp, 17, 0, 0, 0, .null, [], [])), (17, (.ifCond .eq 8, 20, 25, 0, 0, .null, [], [])), (20, (.aload_n 0, 21, 0, 0, 0, .null, [], [])), (21, (.iconst 1, 22, 0, 0, 0, .int 1, [], []))]),
  (27, [(22, (.putfield 15, 25, 7, 1, 3, .null, [], [])), (25, (.lload 5, 27, 5, 0, 0, .null, [], [])), (27, (.lreturn, 28, 0, 0, 0, .null, [], []))])]
def zc_Time_product : zCd := zFd zl_Time_product
def zl_Time_total : List (Nat × List (Nat × zEnt)) := [(9, [(0, (.lload_n 1, 1, 1, 0, 0, .null, [], [])), (1, (.lload_n 3, 2, 3, 0, 0, .null, [], [])), (2, (.ladd, 3, 0, 0, 0, .null, [], [])), (3, (.lstore 5, 5, 5, 0, 0, .null, [], [])), (5, (.lload_n 1, 6, 1, 0, 0, .null, [], [])), (6, (.lload 5, 8, 5, 0, 0, .null, [], [])), (8, (.lxor, 9, 0, 0, 0, .null, [], [])), (9, (.lload_n 3, 10, 3, 0, 0, .null, [], []))]),
  (20, [(10, (.lload 5, 12, 5, 0, 0, .null, [], [])), (12, (.lxor, 13, 0, 0, 0, .null, [], [])), (13, (.land, 14, 0, 0, 0, .null, [], [])), (14, (.lconst 0, 15, 0, 0, 0, .long 0, [], [])), (15, (.lcmp, 16, 0, 0, 0, .null, [], [])), (16, (.ifCond .ge 8, 19, 24, 0, 0, .null, [], [])), (19, (.aload_n 0, 20, 0, 0, 0, .null, [], [])), (20, (.iconst 1, 21, 0, 0, 0, .int 1, [], []))]),
  (26, [(21, (.putfield 15, 24, 7, 1, 3, .null, [], [])), (24, (.lload 5, 26, 5, 0, 0, .null, [], [])), (26, (.lreturn, 27, 0, 0, 0, .null, [], []))])]
def zc_Time_total : zCd := zFd zl_Time_total
def zl_Time_difference : List (Nat × List (Nat × zEnt)) := [(8, [(0, (.lload_n 1, 1, 1, 0, 0, .null, [], [])), (1, (.lload_n 3, 2, 3, 0, 0, .null, [], [])), (2, (.lsub, 3, 0, 0, 0, .null, [], [])), (3, (.lstore 5, 5, 5, 0, 0, .null, [], [])), (5, (.lload_n 1, 6, 1, 0, 0, .null, [], [])), (6, (.lload_n 3, 7, 3, 0, 0, .null, [], [])), (7, (.lxor, 8, 0, 0, 0, .null, [], [])), (8, (.lload_n 1, 9, 1, 0, 0, .null, [], []))]),
  (19, [(9, (.lload 5, 11, 5, 0, 0, .null, [], [])), (11, (.lxor, 12, 0, 0, 0, .null, [], [])), (12, (.land, 13, 0, 0, 0, .null, [], [])), (13, (.lconst 0, 14, 0, 0, 0, .long 0, [], [])), (14, (.lcmp, 15, 0, 0, 0, .null, [], [])), (15, (.ifCond .ge 8, 18, 23, 0, 0, .null, [], [])), (18, (.aload_n 0, 19, 0, 0, 0, .null, [], [])), (19, (.iconst 1, 20, 0, 0, 0, .int 1, [], []))]),
  (25, [(20, (.putfield 15, 23, 7, 1, 3, .null, [], [])), (23, (.lload 5, 25, 5, 0, 0, .null, [], [])), (25, (.lreturn, 26, 0, 0, 0, .null, [], []))])]
def zc_Time_difference : zCd := zFd zl_Time_difference
def zl_Time_nearest : List (Nat × List (Nat × zEnt)) := [(9, [(0, (.lload_n 2, 1, 2, 0, 0, .null, [], [])), (1, (.lconst 0, 2, 0, 0, 0, .long 0, [], [])), (2, (.lcmp, 3, 0, 0, 0, .null, [], [])), (3, (.ifCond .gt 5, 6, 8, 0, 0, .null, [], [])), (6, (.lconst 0, 7, 0, 0, 0, .long 0, [], [])), (7, (.lreturn, 8, 0, 0, 0, .null, [], [])), (8, (.lload_n 0, 9, 0, 0, 0, .null, [], [])), (9, (.lload_n 2, 10, 2, 0, 0, .null, [], []))]),
  (24, [(10, (.invokestatic 55, 13, 1, 2, 1, .null, [], [])), (13, (.lstore 4, 15, 4, 0, 0, .null, [], [])), (15, (.lload_n 0, 16, 0, 0, 0, .null, [], [])), (16, (.lload_n 2, 17, 2, 0, 0, .null, [], [])), (17, (.invokestatic 60, 20, 2, 2, 1, .null, [], [])), (20, (.lstore 6, 22, 6, 0, 0, .null, [], [])), (22, (.lload 6, 24, 6, 0, 0, .null, [], [])), (24, (.lload_n 2, 25, 2, 0, 0, .null, [], []))]),
  (36, [(25, (.lload 6, 27, 6, 0, 0, .null, [], [])), (27, (.lsub, 28, 0, 0, 0, .null, [], [])), (28, (.lcmp, 29, 0, 0, 0, .null, [], [])), (29, (.ifCond .lt 10, 32, 39, 0, 0, .null, [], [])), (32, (.lload 4, 34, 4, 0, 0, .null, [], [])), (34, (.lconst 1, 35, 0, 0, 0, .long 1, [], [])), (35, (.ladd, 36, 0, 0, 0, .null, [], [])), (36, (.goto 5, 39, 41, 0, 0, .null, [], []))]),
  (41, [(39, (.lload 4, 41, 4, 0, 0, .null, [], [])), (41, (.lreturn, 42, 0, 0, 0, .null, [], []))])]
def zc_Time_nearest : zCd := zFd zl_Time_nearest
def zl_Web_init : List (Nat × List (Nat × zEnt)) := [(15, [(0, (.aload_n 0, 1, 0, 0, 0, .null, [], [])), (1, (.invokespecial 3, 4, 0, 0, 0, .double 0, [], [])), (4, (.aload_n 0, 5, 0, 0, 0, .null, [], [])), (5, (.new 9, 8, 0, 4, 0, .null, [], [0, 0, 0, 2])), (8, (.dup, 9, 0, 0, 0, .null, [], [])), (9, (.invokespecial 11, 12, 5, 1, 9, .null, [], [1, 112])), (12, (.putfield 12, 15, 8, 0, 2, .null, [], [])), (15, (.aload_n 0, 16, 0, 0, 0, .null, [], []))]),
  (32, [(16, (.bipush 49, 18, 0, 0, 0, .int 49, [], [])), (18, (.anewarray 18, 21, 3, 0, 0, .null, [], [])), (21, (.putfield 20, 24, 8, 1, 2, .null, [], [])), (24, (.aload_n 0, 25, 0, 0, 0, .null, [], [])), (25, (.bipush 7, 27, 0, 0, 0, .int 7, [], [])), (27, (.newarray .int, 29, 0, 0, 0, .null, [], [])), (29, (.putfield 24, 32, 8, 2, 2, .null, [], [])), (32, (.iconst 0, 33, 0, 0, 0, .int 0, [], []))]),
  (44, [(33, (.istore_n 1, 34, 1, 0, 0, .null, [], [])), (34, (.iload_n 1, 35, 1, 0, 0, .null, [], [])), (35, (.aload_n 0, 36, 0, 0, 0, .null, [], [])), (36, (.getfield 20, 39, 8, 1, 2, .null, [], [])), (39, (.arraylength, 40, 3, 2, 0, .null, [], [])), (40, (.if_icmp .ge 22, 43, 62, 0, 0, .null, [], [])), (43, (.aload_n 0, 44, 0, 0, 0, .null, [], [])), (44, (.getfield 20, 47, 8, 1, 2, .null, [], []))]),
  (62, [(47, (.iload_n 1, 48, 1, 0, 0, .null, [], [])), (48, (.new 18, 51, 3, 13, 0, .null, [], [0, 0, 0, 1, 1, 1, 1, 1, 0, 1, 0, 2, 0])), (51, (.dup, 52, 0, 0, 0, .null, [], [])), (52, (.invokespecial 28, 55, 35, 1, 9, .null, [], [1, 16])), (55, (.aastore, 56, 3, 0, 0, .null, [], [])), (56, (.iinc 1 1, 59, 1, 0, 0, .int 1, [], [])), (59, (.goto (-25), 62, 34, 0, 0, .null, [], [])), (62, (.aload_n 0, 63, 0, 0, 0, .null, [], []))]),
  (78, [(63, (.iconst 1, 64, 0, 0, 0, .int 1, [], [])), (64, (.putfield 29, 67, 8, 3, 0, .null, [], [])), (67, (.aload_n 0, 68, 0, 0, 0, .null, [], [])), (68, (.getfield 24, 71, 8, 2, 2, .null, [], [])), (71, (.aload_n 0, 72, 0, 0, 0, .null, [], [])), (72, (.getfield 29, 75, 8, 3, 0, .null, [], [])), (75, (.invokestatic 33, 78, 4, 2, 9, .null, [], [])), (78, (.return_, 79, 0, 0, 0, .null, [], [1]))])]
def zc_Web_init : zCd := zFd zl_Web_init
def zl_Web_touch : List (Nat × List (Nat × zEnt)) := [(11, [(0, (.aload_n 0, 1, 0, 0, 0, .null, [], [])), (1, (.dup, 2, 0, 0, 0, .null, [], [])), (2, (.getfield 29, 5, 8, 3, 0, .null, [], [])), (5, (.iconst 1, 6, 0, 0, 0, .int 1, [], [])), (6, (.iadd, 7, 0, 0, 0, .null, [], [])), (7, (.putfield 29, 10, 8, 3, 0, .null, [], [])), (10, (.aload_n 0, 11, 0, 0, 0, .null, [], [])), (11, (.getfield 24, 14, 8, 2, 2, .null, [], []))]),
  (20, [(14, (.iload_n 1, 15, 1, 0, 0, .null, [], [])), (15, (.aload_n 0, 16, 0, 0, 0, .null, [], [])), (16, (.getfield 29, 19, 8, 3, 0, .null, [], [])), (19, (.iastore, 20, 0, 0, 0, .null, [], [])), (20, (.return_, 21, 0, 0, 0, .null, [], []))])]
def zc_Web_touch : zCd := zFd zl_Web_touch
def zl_Web_touchAll : List (Nat × List (Nat × zEnt)) := [(11, [(0, (.aload_n 0, 1, 0, 0, 0, .null, [], [])), (1, (.dup, 2, 0, 0, 0, .null, [], [])), (2, (.getfield 29, 5, 8, 3, 0, .null, [], [])), (5, (.iconst 1, 6, 0, 0, 0, .int 1, [], [])), (6, (.iadd, 7, 0, 0, 0, .null, [], [])), (7, (.putfield 29, 10, 8, 3, 0, .null, [], [])), (10, (.aload_n 0, 11, 0, 0, 0, .null, [], [])), (11, (.getfield 24, 14, 8, 2, 2, .null, [], []))]),
  (21, [(14, (.aload_n 0, 15, 0, 0, 0, .null, [], [])), (15, (.getfield 29, 18, 8, 3, 0, .null, [], [])), (18, (.invokestatic 33, 21, 4, 2, 9, .null, [], [])), (21, (.return_, 22, 0, 0, 0, .null, [], []))])]
def zc_Web_touchAll : zCd := zFd zl_Web_touchAll
def zl_Web_lineOf : List (Nat × List (Nat × zEnt)) := [(10, [(0, (.aload_n 0, 1, 0, 0, 0, .null, [], [])), (1, (.getfield 20, 4, 8, 1, 2, .null, [], [])), (4, (.iload_n 1, 5, 1, 0, 0, .null, [], [])), (5, (.bipush 7, 7, 0, 0, 0, .int 7, [], [])), (7, (.imul, 8, 0, 0, 0, .null, [], [])), (8, (.iload_n 2, 9, 2, 0, 0, .null, [], [])), (9, (.iadd, 10, 0, 0, 0, .null, [], [])), (10, (.aaload, 11, 3, 0, 0, .null, [], []))]),
  (22, [(11, (.astore_n 3, 12, 3, 0, 0, .null, [], [])), (12, (.aload_n 3, 13, 3, 0, 0, .null, [], [])), (13, (.getfield 39, 16, 3, 0, 0, .null, [], [])), (16, (.aload_n 0, 17, 0, 0, 0, .null, [], [])), (17, (.getfield 24, 20, 8, 2, 2, .null, [], [])), (20, (.iload_n 1, 21, 1, 0, 0, .null, [], [])), (21, (.iaload, 22, 0, 0, 0, .null, [], [])), (22, (.if_icmp .lt 16, 25, 38, 0, 0, .null, [], []))]),
  (38, [(25, (.aload_n 3, 26, 3, 0, 0, .null, [], [])), (26, (.getfield 39, 29, 3, 0, 0, .null, [], [])), (29, (.aload_n 0, 30, 0, 0, 0, .null, [], [])), (30, (.getfield 24, 33, 8, 2, 2, .null, [], [])), (33, (.iload_n 2, 34, 2, 0, 0, .null, [], [])), (34, (.iaload, 35, 0, 0, 0, .null, [], [])), (35, (.if_icmp .ge 21, 38, 56, 0, 0, .null, [], [])), (38, (.aload_n 3, 39, 3, 0, 0, .null, [], []))]),
  (50, [(39, (.aload_n 0, 40, 0, 0, 0, .null, [], [])), (40, (.getfield 12, 43, 8, 0, 2, .null, [], [])), (43, (.iload_n 1, 44, 1, 0, 0, .null, [], [])), (44, (.iload_n 2, 45, 2, 0, 0, .null, [], [])), (45, (.invokevirtual 42, 48, 36, 4, 9, .ref 3, [], [])), (48, (.aload_n 3, 49, 3, 0, 0, .null, [], [])), (49, (.aload_n 0, 50, 0, 0, 0, .null, [], [])), (50, (.getfield 29, 53, 8, 3, 0, .null, [], []))]),
  (57, [(53, (.putfield 39, 56, 3, 0, 0, .null, [], [])), (56, (.aload_n 3, 57, 3, 0, 0, .null, [], [])), (57, (.areturn, 58, 0, 0, 0, .null, [], []))])]
def zc_Web_lineOf : zCd := zFd zl_Web_lineOf
def zl_Web_isKind : List (Nat × List (Nat × zEnt)) := [(11, [(0, (.iload_n 1, 1, 1, 0, 0, .null, [], [])), (1, (.iload_n 2, 2, 2, 0, 0, .null, [], [])), (2, (.if_icmp .eq 20, 5, 22, 0, 0, .null, [], [])), (5, (.aload_n 0, 6, 0, 0, 0, .null, [], [])), (6, (.iload_n 1, 7, 1, 0, 0, .null, [], [])), (7, (.iload_n 2, 8, 2, 0, 0, .null, [], [])), (8, (.invokevirtual 46, 11, 81, 3, 2, .ref 8, [], [])), (11, (.getfield 50, 14, 3, 1, 0, .null, [], []))]),
  (23, [(14, (.iload_n 3, 15, 3, 0, 0, .null, [], [])), (15, (.if_icmp .ne 7, 18, 22, 0, 0, .null, [], [])), (18, (.iconst 1, 19, 0, 0, 0, .int 1, [], [])), (19, (.goto 4, 22, 23, 0, 0, .null, [], [])), (22, (.iconst 0, 23, 0, 0, 0, .int 0, [], [])), (23, (.ireturn, 24, 0, 0, 3, .null, [], []))])]
def zc_Web_isKind : zCd := zFd zl_Web_isKind
def zl_Web_linesOfKind : List (Nat × List (Nat × zEnt)) := [(9, [(0, (.iconst 0, 1, 0, 0, 0, .int 0, [], [])), (1, (.istore_n 2, 2, 2, 0, 0, .null, [], [])), (2, (.iconst 0, 3, 0, 0, 0, .int 0, [], [])), (3, (.istore_n 3, 4, 3, 0, 0, .null, [], [])), (4, (.iload_n 3, 5, 3, 0, 0, .null, [4], [])), (5, (.aload_n 0, 6, 0, 0, 0, .null, [], [])), (6, (.getfield 12, 9, 8, 0, 2, .null, [], [])), (9, (.getfield 53, 12, 0, 0, 0, .null, [], []))]),
  (27, [(12, (.if_icmp .ge 44, 15, 56, 0, 0, .null, [], [])), (15, (.iconst 0, 16, 0, 0, 0, .int 0, [], [])), (16, (.istore 4, 18, 4, 0, 0, .null, [], [])), (18, (.iload 4, 20, 4, 0, 0, .null, [], [])), (20, (.aload_n 0, 21, 0, 0, 0, .null, [], [])), (21, (.getfield 12, 24, 8, 0, 2, .null, [], [])), (24, (.getfield 53, 27, 0, 0, 0, .null, [], [])), (27, (.if_icmp .ge 23, 30, 50, 0, 0, .null, [], []))]),
  (44, [(30, (.aload_n 0, 31, 0, 0, 0, .null, [], [])), (31, (.iload_n 3, 32, 3, 0, 0, .null, [], [])), (32, (.iload 4, 34, 4, 0, 0, .null, [], [])), (34, (.iload_n 1, 35, 1, 0, 0, .null, [], [])), (35, (.invokevirtual 56, 38, 82, 4, 0, .ref 8, [], [])), (38, (.ifCond .eq 6, 41, 44, 0, 0, .null, [], [])), (41, (.iinc 2 1, 44, 2, 0, 0, .int 1, [], [])), (44, (.iinc 4 1, 47, 4, 0, 0, .int 1, [], []))]),
  (57, [(47, (.goto (-29), 50, 18, 0, 0, .null, [], [])), (50, (.iinc 3 1, 53, 3, 0, 0, .int 1, [], [])), (53, (.goto (-49), 56, 4, 0, 0, .null, [], [])), (56, (.iload_n 2, 57, 2, 0, 0, .null, [], [])), (57, (.ireturn, 58, 0, 0, 0, .null, [], []))])]
def zc_Web_linesOfKind : zCd := zFd zl_Web_linesOfKind
def zl_Web_goodLinesFrom : List (Nat × List (Nat × zEnt)) := [(9, [(0, (.iconst 0, 1, 0, 0, 0, .int 0, [], [])), (1, (.istore_n 2, 2, 2, 0, 0, .null, [], [])), (2, (.iconst 0, 3, 0, 0, 0, .int 0, [], [])), (3, (.istore_n 3, 4, 3, 0, 0, .null, [], [])), (4, (.iload_n 3, 5, 3, 0, 0, .null, [], [])), (5, (.aload_n 0, 6, 0, 0, 0, .null, [], [])), (6, (.getfield 12, 9, 8, 0, 2, .null, [], [])), (9, (.getfield 53, 12, 0, 0, 0, .null, [], []))]),
  (25, [(12, (.if_icmp .ge 22, 15, 34, 0, 0, .null, [], [])), (15, (.aload_n 0, 16, 0, 0, 0, .null, [], [])), (16, (.iload_n 1, 17, 1, 0, 0, .null, [], [])), (17, (.iload_n 3, 18, 3, 0, 0, .null, [], [])), (18, (.iconst 2, 19, 0, 0, 0, .int 2, [], [])), (19, (.invokevirtual 56, 22, 82, 4, 0, .ref 8, [], [])), (22, (.ifCond .eq 6, 25, 28, 0, 0, .null, [], [])), (25, (.iinc 2 1, 28, 2, 0, 0, .int 1, [], []))]),
  (35, [(28, (.iinc 3 1, 31, 3, 0, 0, .int 1, [], [])), (31, (.goto (-27), 34, 4, 0, 0, .null, [], [])), (34, (.iload_n 2, 35, 2, 0, 0, .null, [], [])), (35, (.ireturn, 36, 0, 0, 0, .null, [], []))])]
def zc_Web_goodLinesFrom : zCd := zFd zl_Web_goodLinesFrom
def zl_Web_goodLinesTo : List (Nat × List (Nat × zEnt)) := [(9, [(0, (.iconst 0, 1, 0, 0, 0, .int 0, [], [])), (1, (.istore_n 2, 2, 2, 0, 0, .null, [], [])), (2, (.iconst 0, 3, 0, 0, 0, .int 0, [], [])), (3, (.istore_n 3, 4, 3, 0, 0, .null, [], [])), (4, (.iload_n 3, 5, 3, 0, 0, .null, [], [])), (5, (.aload_n 0, 6, 0, 0, 0, .null, [], [])), (6, (.getfield 12, 9, 8, 0, 2, .null, [], [])), (9, (.getfield 53, 12, 0, 0, 0, .null, [], []))]),
  (25, [(12, (.if_icmp .ge 22, 15, 34, 0, 0, .null, [], [])), (15, (.aload_n 0, 16, 0, 0, 0, .null, [], [])), (16, (.iload_n 3, 17, 3, 0, 0, .null, [], [])), (17, (.iload_n 1, 18, 1, 0, 0, .null, [], [])), (18, (.iconst 2, 19, 0, 0, 0, .int 2, [], [])), (19, (.invokevirtual 56, 22, 82, 4, 0, .ref 8, [], [])), (22, (.ifCond .eq 6, 25, 28, 0, 0, .null, [], [])), (25, (.iinc 2 1, 28, 2, 0, 0, .int 1, [], []))]),
  (35, [(28, (.iinc 3 1, 31, 3, 0, 0, .int 1, [], [])), (31, (.goto (-27), 34, 4, 0, 0, .null, [], [])), (34, (.iload_n 2, 35, 2, 0, 0, .null, [], [])), (35, (.ireturn, 36, 0, 0, 0, .null, [], []))])]
def zc_Web_goodLinesTo : zCd := zFd zl_Web_goodLinesTo
def zl_Web_allStrikes : List (Nat × List (Nat × zEnt)) := [(9, [(0, (.iconst 0, 1, 0, 0, 0, .int 0, [], [])), (1, (.istore_n 1, 2, 1, 0, 0, .null, [], [])), (2, (.iconst 0, 3, 0, 0, 0, .int 0, [], [])), (3, (.istore_n 2, 4, 2, 0, 0, .null, [], [])), (4, (.iload_n 2, 5, 2, 0, 0, .null, [3], [])), (5, (.aload_n 0, 6, 0, 0, 0, .null, [], [])), (6, (.getfield 12, 9, 8, 0, 2, .null, [], [])), (9, (.getfield 53, 12, 0, 0, 0, .null, [], []))]),
  (25, [(12, (.if_icmp .ge 45, 15, 57, 0, 0, .null, [], [])), (15, (.iconst 0, 16, 0, 0, 0, .int 0, [], [])), (16, (.istore_n 3, 17, 3, 0, 0, .null, [], [])), (17, (.iload_n 3, 18, 3, 0, 0, .null, [], [])), (18, (.aload_n 0, 19, 0, 0, 0, .null, [], [])), (19, (.getfield 12, 22, 8, 0, 2, .null, [], [])), (22, (.getfield 53, 25, 0, 0, 0, .null, [], [])), (25, (.if_icmp .ge 26, 28, 51, 0, 0, .null, [], []))]),
  (37, [(28, (.iload_n 2, 29, 2, 0, 0, .null, [], [])), (29, (.iload_n 3, 30, 3, 0, 0, .null, [], [])), (30, (.if_icmp .eq 15, 33, 45, 0, 0, .null, [], [])), (33, (.iload_n 1, 34, 1, 0, 0, .null, [], [])), (34, (.aload_n 0, 35, 0, 0, 0, .null, [], [])), (35, (.iload_n 2, 36, 2, 0, 0, .null, [], [])), (36, (.iload_n 3, 37, 3, 0, 0, .null, [], [])), (37, (.invokevirtual 46, 40, 81, 3, 2, .ref 8, [], []))]),
  (57, [(40, (.getfield 60, 43, 3, 10, 0, .null, [], [])), (43, (.iadd, 44, 0, 0, 0, .null, [], [])), (44, (.istore_n 1, 45, 1, 0, 0, .null, [], [])), (45, (.iinc 3 1, 48, 3, 0, 0, .int 1, [], [])), (48, (.goto (-31), 51, 17, 0, 0, .null, [], [])), (51, (.iinc 2 1, 54, 2, 0, 0, .int 1, [], [])), (54, (.goto (-50), 57, 4, 0, 0, .null, [], [])), (57, (.iload_n 1, 58, 1, 0, 0, .null, [], []))]),
  (58, [(58, (.ireturn, 59, 0, 0, 0, .null, [], []))])]
def zc_Web_allStrikes : zCd := zFd zl_Web_allStrikes
def zl_BL_init : List (Nat × List (Nat × zEnt)) := [(15, [(0, (.aload_n 0, 1, 0, 0, 0, .null, [], [])), (1, (.invokespecial 1, 4, 0, 0, 0, .double 0, [], [])), (4, (.aload_n 0, 5, 0, 0, 0, .null, [], [])), (5, (.new 7, 8, 6, 10, 0, .null, [], [2, 2, 0, 0, 0, 0, 0, 0, 0, 0])), (8, (.dup, 9, 0, 0, 0, .null, [], [])), (9, (.invokespecial 9, 12, 56, 1, 9, .null, [], [4, 418])), (12, (.putfield 10, 15, 9, 0, 2, .null, [], [])), (15, (.aload_n 0, 16, 0, 0, 0, .null, [], []))]),
  (31, [(16, (.aload_n 0, 17, 0, 0, 0, .null, [], [])), (17, (.getfield 10, 20, 9, 0, 2, .null, [], [])), (20, (.getfield 16, 23, 6, 0, 2, .null, [], [])), (23, (.putfield 20, 26, 9, 1, 2, .null, [], [])), (26, (.aload_n 0, 27, 0, 0, 0, .null, [], [])), (27, (.new 21, 30, 8, 4, 0, .null, [], [2, 2, 2, 0])), (30, (.dup, 31, 0, 0, 0, .null, [], [])), (31, (.invokespecial 23, 34, 78, 1, 9, .null, [], [102, 1593]))]),
  (49, [(34, (.putfield 24, 37, 9, 2, 2, .null, [], [])), (37, (.aload_n 0, 38, 0, 0, 0, .null, [1], [])), (38, (.aload_n 0, 39, 0, 0, 0, .null, [], [])), (39, (.getfield 24, 42, 9, 2, 2, .null, [], [])), (42, (.getfield 28, 45, 8, 0, 2, .null, [], [])), (45, (.putfield 32, 48, 9, 3, 2, .null, [], [])), (48, (.aload_n 0, 49, 0, 0, 0, .null, [], [])), (49, (.new 33, 52, 1, 4, 0, .null, [], [0, 0, 2, 2]))]),
  (67, [(52, (.dup, 53, 0, 0, 0, .null, [], [])), (53, (.invokespecial 35, 56, 18, 1, 9, .null, [], [2, 56])), (56, (.putfield 36, 59, 9, 4, 2, .null, [], [])), (59, (.aload_n 0, 60, 0, 0, 0, .null, [], [])), (60, (.new 40, 63, 2, 3, 0, .null, [], [2, 2, 0])), (63, (.dup, 64, 0, 0, 0, .null, [], [])), (64, (.invokespecial 42, 67, 31, 1, 9, .null, [], [2, 14])), (67, (.putfield 43, 70, 9, 5, 2, .null, [], []))]),
  (83, [(70, (.aload_n 0, 71, 0, 0, 0, .null, [], [])), (71, (.new 47, 74, 7, 2, 0, .null, [], [1, 0])), (74, (.dup, 75, 0, 0, 0, .null, [], [])), (75, (.invokespecial 49, 78, 70, 1, 9, .null, [], [])), (78, (.putfield 50, 81, 9, 6, 2, .null, [], [])), (81, (.aload_n 0, 82, 0, 0, 0, .null, [], [])), (82, (.iconst 2, 83, 0, 0, 0, .int 2, [], [])), (83, (.anewarray 54, 86, 0, 0, 0, .null, [], []))]),
  (98, [(86, (.putfield 56, 89, 9, 7, 2, .null, [], [])), (89, (.aload_n 0, 90, 0, 0, 0, .null, [], [])), (90, (.iconst 2, 91, 0, 0, 0, .int 2, [], [])), (91, (.newarray .boolean, 93, 1, 0, 0, .null, [], [])), (93, (.putfield 60, 96, 9, 8, 2, .null, [], [])), (96, (.aload_n 0, 97, 0, 0, 0, .null, [], [])), (97, (.iconst 4, 98, 0, 0, 0, .int 4, [], [])), (98, (.anewarray 64, 101, 4, 0, 0, .null, [], []))]),
  (112, [(101, (.putfield 66, 104, 9, 9, 2, .null, [], [])), (104, (.iconst 0, 105, 0, 0, 0, .int 0, [], [])), (105, (.istore_n 1, 106, 1, 0, 0, .null, [], [])), (106, (.iload_n 1, 107, 1, 0, 0, .null, [], [])), (107, (.iconst 2, 108, 0, 0, 0, .int 2, [], [])), (108, (.if_icmp .ge 22, 111, 130, 0, 0, .null, [], [])), (111, (.aload_n 0, 112, 0, 0, 0, .null, [], [])), (112, (.getfield 56, 115, 9, 7, 2, .null, [], []))]),
  (130, [(115, (.iload_n 1, 116, 1, 0, 0, .null, [], [])), (116, (.new 54, 119, 0, 4, 0, .null, [], [0, 0, 0, 2])), (119, (.dup, 120, 0, 0, 0, .null, [], [])), (120, (.invokespecial 70, 123, 5, 1, 9, .null, [], [1, 112])), (123, (.aastore, 124, 0, 0, 0, .null, [], [])), (124, (.iinc 1 1, 127, 1, 0, 0, .int 1, [], [])), (127, (.goto (-21), 130, 106, 0, 0, .null, [], [])), (130, (.iconst 0, 131, 0, 0, 0, .int 0, [], []))]),
  (142, [(131, (.istore_n 1, 132, 1, 0, 0, .null, [], [])), (132, (.iload_n 1, 133, 1, 0, 0, .null, [], [])), (133, (.iconst 4, 134, 0, 0, 0, .int 4, [], [])), (134, (.if_icmp .ge 22, 137, 156, 0, 0, .null, [], [])), (137, (.aload_n 0, 138, 0, 0, 0, .null, [], [])), (138, (.getfield 66, 141, 9, 9, 2, .null, [], [])), (141, (.iload_n 1, 142, 1, 0, 0, .null, [], [])), (142, (.new 64, 145, 4, 3, 0, .null, [], [0, 0, 2]))]),
  (156, [(145, (.dup, 146, 0, 0, 0, .null, [], [])), (146, (.invokespecial 71, 149, 45, 1, 9, .null, [], [1, 48])), (149, (.aastore, 150, 4, 0, 0, .null, [], [])), (150, (.iinc 1 1, 153, 1, 0, 0, .int 1, [], [])), (153, (.goto (-21), 156, 132, 0, 0, .null, [], [])), (156, (.return_, 157, 0, 0, 0, .null, [], [1]))])]
def zc_BL_init : zCd := zFd zl_BL_init
def zl_BL_feed : List (Nat × List (Nat × zEnt)) := [(12, [(0, (.iload_n 1, 1, 1, 0, 0, .null, [], [])), (1, (.ifCond .lt 9, 4, 10, 0, 0, .null, [], [])), (4, (.iload_n 1, 5, 1, 0, 0, .null, [], [])), (5, (.bipush 127, 7, 0, 0, 0, .int 127, [], [])), (7, (.if_icmp .le 5, 10, 12, 0, 0, .null, [], [])), (10, (.iconst (-1), 11, 0, 0, 0, .int (-1), [], [])), (11, (.ireturn, 12, 0, 0, 0, .null, [], [])), (12, (.aload_n 0, 13, 0, 0, 0, .null, [], []))]),
  (30, [(13, (.getfield 20, 16, 9, 1, 2, .null, [], [])), (16, (.iload_n 1, 17, 1, 0, 0, .null, [], [])), (17, (.invokevirtual 72, 20, 53, 2, 0, .ref 5, [], [])), (20, (.ifCond .eq 13, 23, 33, 0, 0, .null, [], [])), (23, (.aload_n 0, 24, 0, 0, 0, .null, [], [])), (24, (.getfield 20, 27, 9, 1, 2, .null, [], [])), (27, (.getfield 78, 30, 5, 0, 0, .null, [], [])), (30, (.goto 5, 33, 35, 0, 0, .null, [], []))]),
  (35, [(33, (.bipush (-3), 35, 0, 0, 0, .int (-3), [], [])), (35, (.ireturn, 36, 0, 0, 0, .null, [], []))])]
def zc_BL_feed : zCd := zFd zl_BL_feed
def zl_BL_end : List (Nat × List (Nat × zEnt)) := [(15, [(0, (.iload_n 1, 1, 1, 0, 0, .null, [], [])), (1, (.ifCond .lt 14, 4, 15, 0, 0, .null, [], [])), (4, (.iload_n 1, 5, 1, 0, 0, .null, [], [])), (5, (.aload_n 0, 6, 0, 0, 0, .null, [], [])), (6, (.getfield 20, 9, 9, 1, 2, .null, [], [])), (9, (.getfield 78, 12, 5, 0, 0, .null, [], [])), (12, (.if_icmp .le 5, 15, 17, 0, 0, .null, [], [])), (15, (.iconst (-1), 16, 0, 0, 0, .int (-1), [], []))]),
  (29, [(16, (.ireturn, 17, 0, 0, 0, .null, [], [])), (17, (.aload_n 0, 18, 0, 0, 0, .null, [], [])), (18, (.getfield 20, 21, 9, 1, 2, .null, [], [])), (21, (.getfield 78, 24, 5, 0, 0, .null, [], [])), (24, (.istore_n 2, 25, 2, 0, 0, .null, [], [])), (25, (.aload_n 0, 26, 0, 0, 0, .null, [], [])), (26, (.getfield 20, 29, 9, 1, 2, .null, [], [])), (29, (.iload_n 1, 30, 1, 0, 0, .null, [], []))]),
  (34, [(30, (.putfield 78, 33, 5, 0, 0, .null, [], [])), (33, (.iload_n 2, 34, 2, 0, 0, .null, [], [])), (34, (.ireturn, 35, 0, 0, 0, .null, [], []))])]
def zc_BL_end : zCd := zFd zl_BL_end
def zl_BL_text : List (Nat × List (Nat × zEnt)) := [(13, [(0, (.aload_n 0, 1, 0, 0, 0, .null, [], [])), (1, (.getfield 10, 4, 9, 0, 2, .null, [], [])), (4, (.aload_n 0, 5, 0, 0, 0, .null, [], [])), (5, (.getfield 32, 8, 9, 3, 2, .null, [], [])), (8, (.invokevirtual 82, 11, 57, 2, 0, .ref 6, [], [])), (11, (.istore_n 1, 12, 1, 0, 0, .null, [], [])), (12, (.aload_n 0, 13, 0, 0, 0, .null, [], [])), (13, (.getfield 20, 16, 9, 1, 2, .null, [], []))]),
  (31, [(16, (.iconst 0, 17, 0, 0, 0, .int 0, [], [])), (17, (.putfield 78, 20, 5, 0, 0, .null, [], [])), (20, (.aload_n 0, 21, 0, 0, 0, .null, [], [])), (21, (.aload_n 0, 22, 0, 0, 0, .null, [], [])), (22, (.getfield 10, 25, 9, 0, 2, .null, [], [])), (25, (.getfield 86, 28, 6, 2, 0, .null, [], [])), (28, (.putfield 89, 31, 9, 10, 0, .null, [], [])), (31, (.iload_n 1, 32, 1, 0, 0, .null, [], []))]),
  (46, [(32, (.ifCond .ne 14, 35, 46, 0, 0, .null, [], [])), (35, (.bipush (-10), 37, 0, 0, 0, .int (-10), [], [])), (37, (.aload_n 0, 38, 0, 0, 0, .null, [], [])), (38, (.getfield 10, 41, 9, 0, 2, .null, [], [])), (41, (.getfield 92, 44, 6, 3, 0, .null, [], [])), (44, (.isub, 45, 0, 0, 0, .null, [], [])), (45, (.ireturn, 46, 0, 0, 0, .null, [], [])), (46, (.aload_n 0, 47, 0, 0, 0, .null, [], []))]),
  (64, [(47, (.getfield 32, 50, 9, 3, 2, .null, [], [])), (50, (.aload_n 0, 51, 0, 0, 0, .null, [], [])), (51, (.getfield 10, 54, 9, 0, 2, .null, [], [])), (54, (.getfield 95, 57, 6, 1, 2, .null, [], [])), (57, (.invokevirtual 98, 60, 10, 2, 9, .ref 0, [], [])), (60, (.aload_n 0, 61, 0, 0, 0, .null, [], [])), (61, (.getfield 24, 64, 9, 2, 2, .null, [], [])), (64, (.invokevirtual 102, 67, 80, 1, 9, .ref 8, [], []))]),
  (78, [(67, (.aload_n 0, 68, 0, 0, 0, .null, [], [])), (68, (.invokevirtual 105, 71, 91, 1, 9, .ref 9, [], [])), (71, (.aload_n 0, 72, 0, 0, 0, .null, [], [])), (72, (.getfield 32, 75, 9, 3, 2, .null, [], [])), (75, (.invokevirtual 108, 78, 12, 1, 0, .ref 0, [], [])), (78, (.ireturn, 79, 0, 0, 0, .null, [], []))])]
def zc_BL_text : zCd := zFd zl_BL_text
def zl_BL_dropImages : List (Nat × List (Nat × zEnt)) := [(11, [(0, (.iconst 0, 1, 0, 0, 0, .int 0, [], [])), (1, (.istore_n 1, 2, 1, 0, 0, .null, [], [])), (2, (.iload_n 1, 3, 1, 0, 0, .null, [], [])), (3, (.iconst 2, 4, 0, 0, 0, .int 2, [], [])), (4, (.if_icmp .ge 16, 7, 20, 0, 0, .null, [], [])), (7, (.aload_n 0, 8, 0, 0, 0, .null, [], [])), (8, (.getfield 60, 11, 9, 8, 2, .null, [], [])), (11, (.iload_n 1, 12, 1, 0, 0, .null, [], []))]),
  (20, [(12, (.iconst 0, 13, 0, 0, 0, .int 0, [], [])), (13, (.bastore, 14, 1, 0, 0, .null, [], [])), (14, (.iinc 1 1, 17, 1, 0, 0, .int 1, [], [])), (17, (.goto (-15), 20, 2, 0, 0, .null, [], [])), (20, (.return_, 21, 0, 0, 0, .null, [], []))])]
def zc_BL_dropImages : zCd := zFd zl_BL_dropImages
def zl_BL_fault : List (Nat × List (Nat × zEnt)) := [(4, [(0, (.aload_n 0, 1, 0, 0, 0, .null, [], [])), (1, (.getfield 89, 4, 9, 10, 0, .null, [], [])), (4, (.ireturn, 5, 0, 0, 0, .null, [], []))])]
def zc_BL_fault : zCd := zFd zl_BL_fault
def zl_BL_rule : List (Nat × List (Nat × zEnt)) := [(61, [(0, (.iload_n 1, 1, 1, 0, 0, .null, [], [])), (1, (.tableswitch 125 0 8 #[51, 59, 67, 75, 83, 92, 101, 109, 117], 52, 126, 0, 0, .null, [], [52, 60, 68, 76, 84, 93, 102, 110, 118])), (52, (.aload_n 0, 53, 0, 0, 0, .null, [], [])), (53, (.getfield 32, 56, 9, 3, 2, .null, [], [])), (56, (.getfield 112, 59, 0, 0, 0, .null, [], [])), (59, (.ireturn, 60, 0, 0, 0, .null, [], [])), (60, (.aload_n 0, 61, 0, 0, 0, .null, [], [])), (61, (.getfield 32, 64, 9, 3, 2, .null, [], []))]),
  (77, [(64, (.invokevirtual 108, 67, 12, 1, 0, .ref 0, [], [])), (67, (.ireturn, 68, 0, 0, 0, .null, [], [])), (68, (.aload_n 0, 69, 0, 0, 0, .null, [], [])), (69, (.getfield 32, 72, 9, 3, 2, .null, [], [])), (72, (.getfield 115, 75, 0, 1, 0, .null, [], [])), (75, (.ireturn, 76, 0, 0, 0, .null, [], [])), (76, (.aload_n 0, 77, 0, 0, 0, .null, [], [])), (77, (.getfield 32, 80, 9, 3, 2, .null, [], []))]),
  (93, [(80, (.getfield 118, 83, 0, 2, 0, .null, [], [])), (83, (.ireturn, 84, 0, 0, 0, .null, [], [])), (84, (.aload_n 0, 85, 0, 0, 0, .null, [], [])), (85, (.getfield 24, 88, 9, 2, 2, .null, [], [])), (88, (.iconst 2, 89, 0, 0, 0, .int 2, [], [])), (89, (.invokevirtual 121, 92, 83, 2, 0, .ref 8, [], [])), (92, (.ireturn, 93, 0, 0, 0, .null, [], [])), (93, (.aload_n 0, 94, 0, 0, 0, .null, [], []))]),
  (109, [(94, (.getfield 24, 97, 9, 2, 2, .null, [], [])), (97, (.iconst 1, 98, 0, 0, 0, .int 1, [], [])), (98, (.invokevirtual 121, 101, 83, 2, 0, .ref 8, [], [])), (101, (.ireturn, 102, 0, 0, 0, .null, [], [])), (102, (.aload_n 0, 103, 0, 0, 0, .null, [], [])), (103, (.invokevirtual 125, 106, 106, 1, 2, .ref 9, [], [])), (106, (.invokevirtual 129, 109, 21, 1, 0, .ref 1, [], [])), (109, (.ireturn, 110, 0, 0, 0, .null, [], []))]),
  (125, [(110, (.aload_n 0, 111, 0, 0, 0, .null, [], [])), (111, (.getfield 24, 114, 9, 2, 2, .null, [], [])), (114, (.invokevirtual 132, 117, 86, 1, 0, .ref 8, [], [])), (117, (.ireturn, 118, 0, 0, 0, .null, [], [])), (118, (.aload_n 0, 119, 0, 0, 0, .null, [], [])), (119, (.getfield 32, 122, 9, 3, 2, .null, [], [])), (122, (.invokevirtual 135, 125, 13, 1, 0, .ref 0, [], [])), (125, (.ireturn, 126, 0, 0, 0, .null, [], []))]),
  (127, [(126, (.iconst (-1), 127, 0, 0, 0, .int (-1), [], [])), (127, (.ireturn, 128, 0, 0, 0, .null, [], []))])]
def zc_BL_rule : zCd := zFd zl_BL_rule
def zl_BL_stamp : List (Nat × List (Nat × zEnt)) := [(15, [(0, (.iload_n 1, 1, 1, 0, 0, .null, [], [])), (1, (.invokestatic 138, 4, 122, 1, 0, .null, [], [])), (4, (.ifCond .eq 14, 7, 18, 0, 0, .null, [], [])), (7, (.aload_n 0, 8, 0, 0, 0, .null, [], [])), (8, (.getfield 32, 11, 9, 3, 2, .null, [], [])), (11, (.iload_n 2, 12, 2, 0, 0, .null, [], [])), (12, (.invokevirtual 141, 15, 6, 2, 0, .ref 0, [], [])), (15, (.ifCond .ne 5, 18, 20, 0, 0, .null, [], []))]),
  (29, [(18, (.iconst (-1), 19, 0, 0, 0, .int (-1), [], [])), (19, (.ireturn, 20, 0, 0, 0, .null, [], [])), (20, (.aload_n 0, 21, 0, 0, 0, .null, [], [])), (21, (.getfield 32, 24, 9, 3, 2, .null, [], [])), (24, (.iload_n 1, 25, 1, 0, 0, .null, [], [])), (25, (.iload_n 2, 26, 2, 0, 0, .null, [], [])), (26, (.invokevirtual 144, 29, 7, 3, 0, .ref 0, [], [])), (29, (.ireturn, 30, 0, 0, 0, .null, [], []))])]
def zc_BL_stamp : zCd := zFd zl_BL_stamp
def zl_BL_clock : List (Nat × List (Nat × zEnt)) := [(13, [(0, (.aload_n 0, 1, 0, 0, 0, .null, [], [])), (1, (.getfield 32, 4, 9, 3, 2, .null, [], [])), (4, (.iload_n 1, 5, 1, 0, 0, .null, [], [])), (5, (.invokevirtual 141, 8, 6, 2, 0, .ref 0, [], [])), (8, (.ifCond .ne 5, 11, 13, 0, 0, .null, [], [])), (11, (.iconst (-1), 12, 0, 0, 0, .int (-1), [], [])), (12, (.ireturn, 13, 0, 0, 0, .null, [], [])), (13, (.iload_n 2, 14, 2, 0, 0, .null, [], []))]),
  (54, [(14, (.tableswitch 66 0 3 #[30, 39, 48, 57], 44, 80, 0, 0, .null, [], [44, 53, 62, 71])), (44, (.aload_n 0, 45, 0, 0, 0, .null, [], [])), (45, (.getfield 32, 48, 9, 3, 2, .null, [], [])), (48, (.iload_n 1, 49, 1, 0, 0, .null, [], [])), (49, (.invokevirtual 148, 52, 11, 2, 0, .ref 0, [], [])), (52, (.ireturn, 53, 0, 0, 0, .null, [], [])), (53, (.aload_n 0, 54, 0, 0, 0, .null, [], [])), (54, (.getfield 24, 57, 9, 2, 2, .null, [], []))]),
  (70, [(57, (.iload_n 1, 58, 1, 0, 0, .null, [], [])), (58, (.invokevirtual 151, 61, 84, 2, 0, .ref 8, [], [])), (61, (.ireturn, 62, 0, 0, 0, .null, [], [])), (62, (.aload_n 0, 63, 0, 0, 0, .null, [], [])), (63, (.getfield 24, 66, 9, 2, 2, .null, [], [])), (66, (.iload_n 1, 67, 1, 0, 0, .null, [], [])), (67, (.invokevirtual 154, 70, 85, 2, 0, .ref 8, [], [])), (70, (.ireturn, 71, 0, 0, 0, .null, [], []))]),
  (81, [(71, (.aload_n 0, 72, 0, 0, 0, .null, [], [])), (72, (.invokevirtual 125, 75, 106, 1, 2, .ref 9, [], [])), (75, (.iload_n 1, 76, 1, 0, 0, .null, [], [])), (76, (.invokevirtual 157, 79, 22, 2, 0, .ref 1, [], [])), (79, (.ireturn, 80, 0, 0, 0, .null, [], [])), (80, (.iconst (-1), 81, 0, 0, 0, .int (-1), [], [])), (81, (.ireturn, 82, 0, 0, 0, .null, [], []))])]
def zc_BL_clock : zCd := zFd zl_BL_clock
def zl_BL_line : List (Nat × List (Nat × zEnt)) := [(13, [(0, (.aload_n 0, 1, 0, 0, 0, .null, [], [])), (1, (.iload_n 1, 2, 1, 0, 0, .null, [], [])), (2, (.iload_n 2, 3, 2, 0, 0, .null, [], [])), (3, (.invokevirtual 160, 6, 121, 3, 0, .ref 9, [], [])), (6, (.ifCond .eq 12, 9, 18, 0, 0, .null, [], [])), (9, (.iload_n 3, 10, 3, 0, 0, .null, [], [])), (10, (.ifCond .lt 8, 13, 18, 0, 0, .null, [], [])), (13, (.iload_n 3, 14, 3, 0, 0, .null, [], []))]),
  (25, [(14, (.iconst 4, 15, 0, 0, 0, .int 4, [], [])), (15, (.if_icmp .le 5, 18, 20, 0, 0, .null, [], [])), (18, (.iconst (-1), 19, 0, 0, 0, .int (-1), [], [])), (19, (.ireturn, 20, 0, 0, 0, .null, [], [])), (20, (.aload_n 0, 21, 0, 0, 0, .null, [], [])), (21, (.getfield 24, 24, 9, 2, 2, .null, [], [])), (24, (.iload_n 1, 25, 1, 0, 0, .null, [], [])), (25, (.iload_n 2, 26, 2, 0, 0, .null, [], []))]),
  (70, [(26, (.invokevirtual 164, 29, 81, 3, 2, .ref 8, [], [])), (29, (.astore 4, 31, 4, 0, 0, .null, [], [])), (31, (.iload_n 3, 32, 3, 0, 0, .null, [], [])), (32, (.tableswitch 81 0 3 #[32, 38, 56, 62], 64, 113, 0, 0, .null, [], [64, 70, 88, 94])), (64, (.aload 4, 66, 4, 0, 0, .null, [], [])), (66, (.getfield 168, 69, 3, 1, 0, .null, [], [])), (69, (.ireturn, 70, 0, 0, 0, .null, [], [])), (70, (.aload 4, 72, 4, 0, 0, .null, [], []))]),
  (88, [(72, (.getfield 168, 75, 3, 1, 0, .null, [], [])), (75, (.ifCond .ne 7, 78, 82, 0, 0, .null, [], [])), (78, (.iconst 0, 79, 0, 0, 0, .int 0, [], [])), (79, (.goto 8, 82, 87, 0, 0, .null, [], [])), (82, (.aload 4, 84, 4, 0, 0, .null, [], [])), (84, (.getfield 173, 87, 3, 2, 0, .null, [], [])), (87, (.ireturn, 88, 0, 0, 0, .null, [], [])), (88, (.aload 4, 90, 4, 0, 0, .null, [], []))]),
  (107, [(90, (.getfield 176, 93, 3, 10, 0, .null, [], [])), (93, (.ireturn, 94, 0, 0, 0, .null, [], [])), (94, (.aload 4, 96, 4, 0, 0, .null, [], [])), (96, (.getfield 168, 99, 3, 1, 0, .null, [], [])), (99, (.ifCond .ne 8, 102, 107, 0, 0, .null, [], [])), (102, (.bipush (-4), 104, 0, 0, 0, .int (-4), [], [])), (104, (.goto 8, 107, 112, 0, 0, .null, [], [])), (107, (.aload 4, 109, 4, 0, 0, .null, [], []))]),
  (124, [(109, (.getfield 179, 112, 3, 8, 0, .null, [], [])), (112, (.ireturn, 113, 0, 0, 0, .null, [], [])), (113, (.aload 4, 115, 4, 0, 0, .null, [], [])), (115, (.getfield 168, 118, 3, 1, 0, .null, [], [])), (118, (.iconst 2, 119, 0, 0, 0, .int 2, [], [])), (119, (.if_icmp .ne 11, 122, 130, 0, 0, .null, [], [])), (122, (.aload 4, 124, 4, 0, 0, .null, [], [])), (124, (.invokevirtual 182, 127, 44, 1, 0, .ref 3, [], []))]),
  (132, [(127, (.goto 5, 130, 132, 0, 0, .null, [], [])), (130, (.bipush (-4), 132, 0, 0, 0, .int (-4), [], [])), (132, (.ireturn, 133, 0, 0, 0, .null, [], []))])]
def zc_BL_line : zCd := zFd zl_BL_line
def zl_BL_sum : List (Nat × List (Nat × zEnt)) := [(13, [(0, (.aload_n 0, 1, 0, 0, 0, .null, [], [])), (1, (.iload_n 1, 2, 1, 0, 0, .null, [], [])), (2, (.iload_n 2, 3, 2, 0, 0, .null, [], [])), (3, (.invokevirtual 160, 6, 121, 3, 0, .ref 9, [], [])), (6, (.ifCond .eq 12, 9, 18, 0, 0, .null, [], [])), (9, (.iload_n 3, 10, 3, 0, 0, .null, [], [])), (10, (.ifCond .lt 8, 13, 18, 0, 0, .null, [], [])), (13, (.iload_n 3, 14, 3, 0, 0, .null, [], []))]),
  (27, [(14, (.iconst 5, 15, 0, 0, 0, .int 5, [], [])), (15, (.if_icmp .le 7, 18, 22, 0, 0, .null, [], [])), (18, (.ldc2_w 185, 21, 0, 0, 0, .long (-1), [], [])), (21, (.lreturn, 22, 0, 0, 0, .null, [], [])), (22, (.aload_n 0, 23, 0, 0, 0, .null, [], [])), (23, (.getfield 24, 26, 9, 2, 2, .null, [], [])), (26, (.iload_n 1, 27, 1, 0, 0, .null, [], [])), (27, (.iload_n 2, 28, 2, 0, 0, .null, [], []))]),
  (45, [(28, (.invokevirtual 164, 31, 81, 3, 2, .ref 8, [], [])), (31, (.astore 4, 33, 4, 0, 0, .null, [], [])), (33, (.aload 4, 35, 4, 0, 0, .null, [], [])), (35, (.getfield 168, 38, 3, 1, 0, .null, [], [])), (38, (.ifCond .ne 7, 41, 45, 0, 0, .null, [], [])), (41, (.ldc2_w 187, 44, 0, 0, 0, .long (-4), [], [])), (44, (.lreturn, 45, 0, 0, 0, .null, [], [])), (45, (.iload_n 3, 46, 3, 0, 0, .null, [], []))]),
  (92, [(46, (.tableswitch 65 0 4 #[34, 41, 47, 53, 59], 80, 111, 0, 0, .null, [], [80, 87, 93, 99, 105])), (80, (.aload 4, 82, 4, 0, 0, .null, [], [])), (82, (.getfield 173, 85, 3, 2, 0, .null, [], [])), (85, (.i2l, 86, 0, 0, 0, .null, [], [])), (86, (.lreturn, 87, 0, 0, 0, .null, [], [])), (87, (.aload 4, 89, 4, 0, 0, .null, [], [])), (89, (.getfield 189, 92, 3, 3, 1, .null, [], [])), (92, (.lreturn, 93, 0, 0, 0, .null, [], []))]),
  (107, [(93, (.aload 4, 95, 4, 0, 0, .null, [], [])), (95, (.getfield 193, 98, 3, 4, 1, .null, [], [])), (98, (.lreturn, 99, 0, 0, 0, .null, [], [])), (99, (.aload 4, 101, 4, 0, 0, .null, [], [])), (101, (.getfield 196, 104, 3, 5, 1, .null, [], [])), (104, (.lreturn, 105, 0, 0, 0, .null, [], [])), (105, (.aload 4, 107, 4, 0, 0, .null, [], [])), (107, (.getfield 199, 110, 3, 6, 1, .null, [], []))]),
  (116, [(110, (.lreturn, 111, 0, 0, 0, .null, [], [])), (111, (.aload 4, 113, 4, 0, 0, .null, [], [])), (113, (.getfield 202, 116, 3, 9, 1, .null, [], [])), (116, (.lreturn, 117, 0, 0, 0, .null, [], []))])]
def zc_BL_sum : zCd := zFd zl_BL_sum
def zl_BL_struck : List (Nat × List (Nat × zEnt)) := [(13, [(0, (.aload_n 0, 1, 0, 0, 0, .null, [], [])), (1, (.iload_n 1, 2, 1, 0, 0, .null, [], [])), (2, (.iload_n 2, 3, 2, 0, 0, .null, [], [])), (3, (.invokevirtual 160, 6, 121, 3, 0, .ref 9, [], [])), (6, (.ifCond .eq 7, 9, 13, 0, 0, .null, [], [])), (9, (.iload_n 3, 10, 3, 0, 0, .null, [], [])), (10, (.ifCond .ge 5, 13, 15, 0, 0, .null, [], [])), (13, (.iconst (-1), 14, 0, 0, 0, .int (-1), [], []))]),
  (26, [(14, (.ireturn, 15, 0, 0, 0, .null, [], [])), (15, (.aload_n 0, 16, 0, 0, 0, .null, [], [])), (16, (.getfield 24, 19, 9, 2, 2, .null, [], [])), (19, (.iload_n 1, 20, 1, 0, 0, .null, [], [])), (20, (.iload_n 2, 21, 2, 0, 0, .null, [], [])), (21, (.invokevirtual 164, 24, 81, 3, 2, .ref 8, [], [])), (24, (.astore 4, 26, 4, 0, 0, .null, [], [])), (26, (.iload_n 3, 27, 3, 0, 0, .null, [], []))]),
  (42, [(27, (.aload 4, 29, 4, 0, 0, .null, [], [])), (29, (.getfield 176, 32, 3, 10, 0, .null, [], [])), (32, (.if_icmp .ge 13, 35, 45, 0, 0, .null, [], [])), (35, (.aload 4, 37, 4, 0, 0, .null, [], [])), (37, (.getfield 205, 40, 3, 11, 2, .null, [], [])), (40, (.iload_n 3, 41, 3, 0, 0, .null, [], [])), (41, (.iaload, 42, 0, 0, 0, .null, [], [])), (42, (.goto 5, 45, 47, 0, 0, .null, [], []))]),
  (47, [(45, (.bipush (-4), 47, 0, 0, 0, .int (-4), [], [])), (47, (.ireturn, 48, 0, 0, 0, .null, [], []))])]
def zc_BL_struck : zCd := zFd zl_BL_struck
def zl_BL_far : List (Nat × List (Nat × zEnt)) := [(13, [(0, (.aload_n 0, 1, 0, 0, 0, .null, [], [])), (1, (.iload_n 1, 2, 1, 0, 0, .null, [], [])), (2, (.iload_n 2, 3, 2, 0, 0, .null, [], [])), (3, (.invokevirtual 160, 6, 121, 3, 0, .ref 9, [], [])), (6, (.ifCond .eq 10, 9, 16, 0, 0, .null, [], [])), (9, (.iload_n 3, 10, 3, 0, 0, .null, [], [])), (10, (.invokestatic 138, 13, 122, 1, 0, .null, [], [])), (13, (.ifCond .ne 7, 16, 20, 0, 0, .null, [], []))]),
  (29, [(16, (.ldc2_w 185, 19, 0, 0, 0, .long (-1), [], [])), (19, (.lreturn, 20, 0, 0, 0, .null, [], [])), (20, (.aload_n 0, 21, 0, 0, 0, .null, [4, 5, 6], [])), (21, (.getfield 24, 24, 9, 2, 2, .null, [], [])), (24, (.iload_n 1, 25, 1, 0, 0, .null, [], [])), (25, (.iload_n 2, 26, 2, 0, 0, .null, [], [])), (26, (.invokevirtual 164, 29, 81, 3, 2, .ref 8, [], [])), (29, (.astore 4, 31, 4, 0, 0, .null, [], []))]),
  (43, [(31, (.aload_n 0, 32, 0, 0, 0, .null, [], [])), (32, (.getfield 32, 35, 9, 3, 2, .null, [], [])), (35, (.iload_n 3, 36, 3, 0, 0, .null, [], [])), (36, (.iload_n 1, 37, 1, 0, 0, .null, [], [])), (37, (.invokevirtual 144, 40, 7, 3, 0, .ref 0, [], [])), (40, (.istore 5, 42, 5, 0, 0, .null, [], [])), (42, (.aload_n 0, 43, 0, 0, 0, .null, [], [])), (43, (.getfield 32, 46, 9, 3, 2, .null, [], []))]),
  (61, [(46, (.iload_n 3, 47, 3, 0, 0, .null, [], [])), (47, (.iload_n 2, 48, 2, 0, 0, .null, [], [])), (48, (.invokevirtual 144, 51, 7, 3, 0, .ref 0, [], [])), (51, (.istore 6, 53, 6, 0, 0, .null, [], [])), (53, (.aload 4, 55, 4, 0, 0, .null, [], [])), (55, (.getfield 168, 58, 3, 1, 0, .null, [], [])), (58, (.ifCond .eq 17, 61, 75, 0, 0, .null, [], [])), (61, (.iload 5, 63, 5, 0, 0, .null, [], []))]),
  (79, [(63, (.bipush (-4), 65, 0, 0, 0, .int (-4), [], [])), (65, (.if_icmp .eq 10, 68, 75, 0, 0, .null, [], [])), (68, (.iload 6, 70, 6, 0, 0, .null, [], [])), (70, (.bipush (-4), 72, 0, 0, 0, .int (-4), [], [])), (72, (.if_icmp .ne 7, 75, 79, 0, 0, .null, [], [])), (75, (.ldc2_w 187, 78, 0, 0, 0, .long (-4), [], [])), (78, (.lreturn, 79, 0, 0, 0, .null, [], [])), (79, (.aload 4, 81, 4, 0, 0, .null, [], []))]),
  (95, [(81, (.aload 4, 83, 4, 0, 0, .null, [], [])), (83, (.iload 5, 85, 5, 0, 0, .null, [], [])), (85, (.i2l, 86, 0, 0, 0, .null, [], [])), (86, (.iload 6, 88, 6, 0, 0, .null, [], [])), (88, (.i2l, 89, 0, 0, 0, .null, [], [])), (89, (.invokevirtual 209, 92, 42, 3, 1, .ref 3, [], [])), (92, (.invokevirtual 213, 95, 43, 2, 1, .ref 3, [], [])), (95, (.lreturn, 96, 0, 0, 0, .null, [], []))])]
def zc_BL_far : zCd := zFd zl_BL_far
def zl_BL_cost : List (Nat × List (Nat × zEnt)) := [(15, [(0, (.aload_n 0, 1, 0, 0, 0, .null, [], [])), (1, (.getfield 32, 4, 9, 3, 2, .null, [], [])), (4, (.iload_n 1, 5, 1, 0, 0, .null, [], [])), (5, (.invokevirtual 141, 8, 6, 2, 0, .ref 0, [], [])), (8, (.ifCond .eq 14, 11, 22, 0, 0, .null, [], [])), (11, (.aload_n 0, 12, 0, 0, 0, .null, [], [])), (12, (.getfield 32, 15, 9, 3, 2, .null, [], [])), (15, (.iload_n 2, 16, 2, 0, 0, .null, [], []))]),
  (29, [(16, (.invokevirtual 141, 19, 6, 2, 0, .ref 0, [], [])), (19, (.ifCond .ne 5, 22, 24, 0, 0, .null, [], [])), (22, (.iconst (-1), 23, 0, 0, 0, .int (-1), [], [])), (23, (.ireturn, 24, 0, 0, 0, .null, [], [])), (24, (.aload_n 0, 25, 0, 0, 0, .null, [], [])), (25, (.invokevirtual 125, 28, 106, 1, 2, .ref 9, [], [])), (28, (.iload_n 2, 29, 2, 0, 0, .null, [], [])), (29, (.invokevirtual 217, 32, 24, 2, 9, .ref 1, [], []))]),
  (47, [(32, (.aload_n 0, 33, 0, 0, 0, .null, [], [])), (33, (.getfield 36, 36, 9, 4, 2, .null, [], [])), (36, (.iload_n 1, 37, 1, 0, 0, .null, [], [])), (37, (.invokevirtual 221, 40, 27, 2, 0, .ref 1, [], [])), (40, (.ifCond .eq 14, 43, 54, 0, 0, .null, [], [])), (43, (.aload_n 0, 44, 0, 0, 0, .null, [], [])), (44, (.getfield 36, 47, 9, 4, 2, .null, [], [])), (47, (.iload_n 1, 48, 1, 0, 0, .null, [], []))]),
  (56, [(48, (.invokevirtual 224, 51, 28, 2, 0, .ref 1, [], [])), (51, (.goto 5, 54, 56, 0, 0, .null, [], [])), (54, (.bipush (-4), 56, 0, 0, 0, .int (-4), [], [])), (56, (.ireturn, 57, 0, 0, 0, .null, [], []))])]
def zc_BL_cost : zCd := zFd zl_BL_cost
def zl_BL_chain : List (Nat × List (Nat × zEnt)) := [(15, [(0, (.aload_n 0, 1, 0, 0, 0, .null, [], [])), (1, (.getfield 32, 4, 9, 3, 2, .null, [], [])), (4, (.iload_n 1, 5, 1, 0, 0, .null, [], [])), (5, (.invokevirtual 141, 8, 6, 2, 0, .ref 0, [], [])), (8, (.ifCond .eq 18, 11, 26, 0, 0, .null, [], [])), (11, (.aload_n 0, 12, 0, 0, 0, .null, [], [])), (12, (.getfield 32, 15, 9, 3, 2, .null, [], [])), (15, (.iload_n 2, 16, 2, 0, 0, .null, [], []))]),
  (29, [(16, (.invokevirtual 141, 19, 6, 2, 0, .ref 0, [], [])), (19, (.ifCond .eq 7, 22, 26, 0, 0, .null, [], [])), (22, (.iload_n 3, 23, 3, 0, 0, .null, [], [])), (23, (.ifCond .ge 5, 26, 28, 0, 0, .null, [], [])), (26, (.iconst (-1), 27, 0, 0, 0, .int (-1), [], [])), (27, (.ireturn, 28, 0, 0, 0, .null, [], [])), (28, (.aload_n 0, 29, 0, 0, 0, .null, [], [])), (29, (.invokevirtual 125, 32, 106, 1, 2, .ref 9, [], []))]),
  (47, [(32, (.iload_n 2, 33, 2, 0, 0, .null, [], [])), (33, (.invokevirtual 217, 36, 24, 2, 9, .ref 1, [], [])), (36, (.aload_n 0, 37, 0, 0, 0, .null, [], [])), (37, (.getfield 36, 40, 9, 4, 2, .null, [], [])), (40, (.iload_n 1, 41, 1, 0, 0, .null, [], [])), (41, (.invokevirtual 221, 44, 27, 2, 0, .ref 1, [], [])), (44, (.ifCond .eq 15, 47, 59, 0, 0, .null, [], [])), (47, (.iload_n 3, 48, 3, 0, 0, .null, [], []))]),
  (62, [(48, (.aload_n 0, 49, 0, 0, 0, .null, [], [])), (49, (.getfield 36, 52, 9, 4, 2, .null, [], [])), (52, (.iload_n 1, 53, 1, 0, 0, .null, [], [])), (53, (.invokevirtual 227, 56, 29, 2, 0, .ref 1, [], [])), (56, (.if_icmp .le 6, 59, 62, 0, 0, .null, [], [])), (59, (.bipush (-4), 61, 0, 0, 0, .int (-4), [], [])), (61, (.ireturn, 62, 0, 0, 0, .null, [], [])), (62, (.iload_n 1, 63, 1, 0, 0, .null, [], []))]),
  (75, [(63, (.istore 4, 65, 4, 0, 0, .null, [], [])), (65, (.iconst 0, 66, 0, 0, 0, .int 0, [], [])), (66, (.istore 5, 68, 5, 0, 0, .null, [], [])), (68, (.iload 5, 70, 5, 0, 0, .null, [1, 2], [])), (70, (.iload_n 3, 71, 3, 0, 0, .null, [], [])), (71, (.if_icmp .ge 20, 74, 91, 0, 0, .null, [], [])), (74, (.aload_n 0, 75, 0, 0, 0, .null, [], [])), (75, (.getfield 36, 78, 9, 4, 2, .null, [], []))]),
  (93, [(78, (.iload 4, 80, 4, 0, 0, .null, [], [])), (80, (.invokevirtual 230, 83, 30, 2, 0, .ref 1, [], [])), (83, (.istore 4, 85, 4, 0, 0, .null, [], [])), (85, (.iinc 5 1, 88, 5, 0, 0, .int 1, [], [])), (88, (.goto (-20), 91, 68, 0, 0, .null, [], [])), (91, (.iload 4, 93, 4, 0, 0, .null, [], [])), (93, (.ireturn, 94, 0, 0, 0, .null, [], []))])]
def zc_BL_chain : zCd := zFd zl_BL_chain
def zl_BL_taken : List (Nat × List (Nat × zEnt)) := [(13, [(0, (.aload_n 0, 1, 0, 0, 0, .null, [], [])), (1, (.iconst 0, 2, 0, 0, 0, .int 0, [], [])), (2, (.putfield 233, 5, 9, 11, 0, .null, [], [])), (5, (.aload_n 0, 6, 0, 0, 0, .null, [], [])), (6, (.getfield 32, 9, 9, 3, 2, .null, [], [])), (9, (.iload_n 1, 10, 1, 0, 0, .null, [], [])), (10, (.invokevirtual 141, 13, 6, 2, 0, .ref 0, [], [])), (13, (.ifCond .eq 14, 16, 27, 0, 0, .null, [], []))]),
  (31, [(16, (.aload_n 0, 17, 0, 0, 0, .null, [], [])), (17, (.getfield 32, 20, 9, 3, 2, .null, [], [])), (20, (.iload_n 2, 21, 2, 0, 0, .null, [], [])), (21, (.invokevirtual 141, 24, 6, 2, 0, .ref 0, [], [])), (24, (.ifCond .ne 7, 27, 31, 0, 0, .null, [], [])), (27, (.ldc2_w 185, 30, 0, 0, 0, .long (-1), [], [])), (30, (.lreturn, 31, 0, 0, 0, .null, [], [])), (31, (.aload_n 0, 32, 0, 0, 0, .null, [], []))]),
  (47, [(32, (.invokevirtual 125, 35, 106, 1, 2, .ref 9, [], [])), (35, (.iload_n 1, 36, 1, 0, 0, .null, [], [])), (36, (.iload_n 2, 37, 2, 0, 0, .null, [], [])), (37, (.invokevirtual 236, 40, 23, 3, 0, .ref 1, [], [])), (40, (.ifCond .ne 7, 43, 47, 0, 0, .null, [], [])), (43, (.ldc2_w 239, 46, 0, 0, 0, .long (-2), [], [])), (46, (.lreturn, 47, 0, 0, 0, .null, [], [])), (47, (.aload_n 0, 48, 0, 0, 0, .null, [], []))]),
  (61, [(48, (.getfield 50, 51, 9, 6, 2, .null, [], [])), (51, (.lload_n 3, 52, 3, 0, 0, .null, [], [])), (52, (.invokevirtual 241, 55, 71, 2, 9, .ref 7, [], [])), (55, (.aload_n 0, 56, 0, 0, 0, .null, [], [])), (56, (.iload_n 1, 57, 1, 0, 0, .null, [], [])), (57, (.iload_n 2, 58, 2, 0, 0, .null, [], [])), (58, (.invokevirtual 245, 61, 105, 3, 9, .ref 9, [], [])), (61, (.aload_n 0, 62, 0, 0, 0, .null, [], []))]),
  (65, [(62, (.invokevirtual 249, 65, 107, 1, 1, .ref 9, [], [])), (65, (.lreturn, 66, 0, 0, 0, .null, [], []))])]
def zc_BL_taken : zCd := zFd zl_BL_taken
def zl_BL_ok : List (Nat × List (Nat × zEnt)) := [(4, [(0, (.aload_n 0, 1, 0, 0, 0, .null, [], [])), (1, (.getfield 233, 4, 9, 11, 0, .null, [], [])), (4, (.ireturn, 5, 0, 0, 0, .null, [], []))])]
def zc_BL_ok : zCd := zFd zl_BL_ok
def zl_BL_there : List (Nat × List (Nat × zEnt)) := [(13, [(0, (.aload_n 0, 1, 0, 0, 0, .null, [], [])), (1, (.iconst 0, 2, 0, 0, 0, .int 0, [], [])), (2, (.putfield 233, 5, 9, 11, 0, .null, [], [])), (5, (.aload_n 0, 6, 0, 0, 0, .null, [], [])), (6, (.getfield 32, 9, 9, 3, 2, .null, [], [])), (9, (.iload_n 1, 10, 1, 0, 0, .null, [], [])), (10, (.invokevirtual 141, 13, 6, 2, 0, .ref 0, [], [])), (13, (.ifCond .eq 14, 16, 27, 0, 0, .null, [], []))]),
  (31, [(16, (.aload_n 0, 17, 0, 0, 0, .null, [4], [])), (17, (.getfield 32, 20, 9, 3, 2, .null, [], [])), (20, (.iload_n 2, 21, 2, 0, 0, .null, [], [])), (21, (.invokevirtual 141, 24, 6, 2, 0, .ref 0, [], [])), (24, (.ifCond .ne 7, 27, 31, 0, 0, .null, [], [])), (27, (.ldc2_w 185, 30, 0, 0, 0, .long (-1), [], [])), (30, (.lreturn, 31, 0, 0, 0, .null, [], [])), (31, (.aload_n 0, 32, 0, 0, 0, .null, [], []))]),
  (47, [(32, (.invokevirtual 125, 35, 106, 1, 2, .ref 9, [], [])), (35, (.iload_n 1, 36, 1, 0, 0, .null, [], [])), (36, (.iload_n 2, 37, 2, 0, 0, .null, [], [])), (37, (.invokevirtual 236, 40, 23, 3, 0, .ref 1, [], [])), (40, (.ifCond .eq 15, 43, 55, 0, 0, .null, [], [])), (43, (.aload_n 0, 44, 0, 0, 0, .null, [], [])), (44, (.getfield 36, 47, 9, 4, 2, .null, [], [])), (47, (.iload_n 2, 48, 2, 0, 0, .null, [], []))]),
  (63, [(48, (.iload_n 1, 49, 1, 0, 0, .null, [], [])), (49, (.invokevirtual 236, 52, 23, 3, 0, .ref 1, [], [])), (52, (.ifCond .ne 7, 55, 59, 0, 0, .null, [], [])), (55, (.ldc2_w 239, 58, 0, 0, 0, .long (-2), [], [])), (58, (.lreturn, 59, 0, 0, 0, .null, [], [])), (59, (.aload_n 0, 60, 0, 0, 0, .null, [], [])), (60, (.getfield 50, 63, 9, 6, 2, .null, [], [])), (63, (.lload_n 3, 64, 3, 0, 0, .null, [], []))]),
  (75, [(64, (.invokevirtual 241, 67, 71, 2, 9, .ref 7, [], [])), (67, (.aload_n 0, 68, 0, 0, 0, .null, [], [])), (68, (.iload_n 1, 69, 1, 0, 0, .null, [], [])), (69, (.iload_n 2, 70, 2, 0, 0, .null, [], [])), (70, (.invokevirtual 245, 73, 105, 3, 9, .ref 9, [], [])), (73, (.aload_n 0, 74, 0, 0, 0, .null, [], [])), (74, (.iload_n 2, 75, 2, 0, 0, .null, [], [])), (75, (.iload_n 1, 76, 1, 0, 0, .null, [], []))]),
  (91, [(76, (.invokevirtual 245, 79, 105, 3, 9, .ref 9, [], [])), (79, (.aload_n 0, 80, 0, 0, 0, .null, [], [])), (80, (.getfield 50, 83, 9, 6, 2, .null, [], [])), (83, (.lload_n 3, 84, 3, 0, 0, .null, [], [])), (84, (.invokevirtual 253, 87, 73, 2, 9, .ref 7, [], [])), (87, (.aload_n 0, 88, 0, 0, 0, .null, [], [])), (88, (.invokevirtual 249, 91, 107, 1, 1, .ref 9, [], [])), (91, (.lreturn, 92, 0, 0, 0, .null, [], []))])]
def zc_BL_there : zCd := zFd zl_BL_there
def zl_BL_takeAlong : List (Nat × List (Nat × zEnt)) := [(11, [(0, (.aload_n 0, 1, 0, 0, 0, .null, [], [])), (1, (.getfield 36, 4, 9, 4, 2, .null, [], [])), (4, (.iload_n 2, 5, 2, 0, 0, .null, [], [])), (5, (.invokevirtual 217, 8, 24, 2, 9, .ref 1, [], [])), (8, (.iload_n 1, 9, 1, 0, 0, .null, [], [])), (9, (.istore_n 3, 10, 3, 0, 0, .null, [], [])), (10, (.iconst 0, 11, 0, 0, 0, .int 0, [], [])), (11, (.istore 4, 13, 4, 0, 0, .null, [], []))]),
  (26, [(13, (.iload 4, 15, 4, 0, 0, .null, [1, 5], [])), (15, (.bipush 7, 17, 0, 0, 0, .int 7, [], [])), (17, (.if_icmp .ge 44, 20, 61, 0, 0, .null, [], [])), (20, (.iload_n 3, 21, 3, 0, 0, .null, [], [])), (21, (.iload_n 2, 22, 2, 0, 0, .null, [], [])), (22, (.if_icmp .eq 39, 25, 61, 0, 0, .null, [], [])), (25, (.aload_n 0, 26, 0, 0, 0, .null, [], [])), (26, (.getfield 36, 29, 9, 4, 2, .null, [], []))]),
  (43, [(29, (.iload_n 3, 30, 3, 0, 0, .null, [], [])), (30, (.invokevirtual 230, 33, 30, 2, 0, .ref 1, [], [])), (33, (.istore 5, 35, 5, 0, 0, .null, [], [])), (35, (.aload_n 0, 36, 0, 0, 0, .null, [], [])), (36, (.getfield 50, 39, 9, 6, 2, .null, [], [])), (39, (.aload_n 0, 40, 0, 0, 0, .null, [], [])), (40, (.getfield 24, 43, 9, 2, 2, .null, [], [])), (43, (.iload_n 3, 44, 3, 0, 0, .null, [], []))]),
  (61, [(44, (.iload 5, 46, 5, 0, 0, .null, [], [])), (46, (.invokevirtual 164, 49, 81, 3, 2, .ref 8, [], [])), (49, (.invokevirtual 256, 52, 72, 2, 9, .ref 7, [], [])), (52, (.iload 5, 54, 5, 0, 0, .null, [], [])), (54, (.istore_n 3, 55, 3, 0, 0, .null, [], [])), (55, (.iinc 4 1, 58, 4, 0, 0, .int 1, [], [])), (58, (.goto (-45), 61, 13, 0, 0, .null, [], [])), (61, (.return_, 62, 0, 0, 0, .null, [], []))])]
def zc_BL_takeAlong : zCd := zFd zl_BL_takeAlong
def zl_BL_freshChains : List (Nat × List (Nat × zEnt)) := [(15, [(0, (.aload_n 0, 1, 0, 0, 0, .null, [], [])), (1, (.getfield 36, 4, 9, 4, 2, .null, [], [])), (4, (.aload_n 0, 5, 0, 0, 0, .null, [], [])), (5, (.getfield 24, 8, 9, 2, 2, .null, [], [])), (8, (.invokevirtual 260, 11, 19, 2, 9, .ref 1, [], [])), (11, (.aload_n 0, 12, 0, 0, 0, .null, [], [])), (12, (.getfield 36, 15, 9, 4, 2, .null, [], [])), (15, (.areturn, 16, 0, 0, 0, .null, [], []))])]
def zc_BL_freshChains : zCd := zFd zl_BL_freshChains
def zl_BL_toldTime : List (Nat × List (Nat × zEnt)) := [(15, [(0, (.aload_n 0, 1, 0, 0, 0, .null, [], [])), (1, (.getfield 50, 4, 9, 6, 2, .null, [], [])), (4, (.getfield 264, 7, 7, 1, 0, .null, [], [])), (7, (.ifCond .eq 7, 10, 14, 0, 0, .null, [], [])), (10, (.ldc2_w 268, 13, 0, 0, 0, .long (-3), [], [])), (13, (.lreturn, 14, 0, 0, 0, .null, [], [])), (14, (.aload_n 0, 15, 0, 0, 0, .null, [], [])), (15, (.iconst 1, 16, 0, 0, 0, .int 1, [], []))]),
  (26, [(16, (.putfield 233, 19, 9, 11, 0, .null, [], [])), (19, (.aload_n 0, 20, 0, 0, 0, .null, [], [])), (20, (.getfield 50, 23, 9, 6, 2, .null, [], [])), (23, (.getfield 270, 26, 7, 0, 1, .null, [], [])), (26, (.lreturn, 27, 0, 0, 0, .null, [], []))])]
def zc_BL_toldTime : zCd := zFd zl_BL_toldTime
def zl_BL_hear : List (Nat × List (Nat × zEnt)) := [(15, [(0, (.iload_n 1, 1, 1, 0, 0, .null, [], [])), (1, (.invokestatic 138, 4, 122, 1, 0, .null, [], [])), (4, (.ifCond .eq 25, 7, 29, 0, 0, .null, [], [])), (7, (.aload_n 0, 8, 0, 0, 0, .null, [], [])), (8, (.getfield 32, 11, 9, 3, 2, .null, [], [])), (11, (.iload_n 2, 12, 2, 0, 0, .null, [], [])), (12, (.invokevirtual 141, 15, 6, 2, 0, .ref 0, [], [])), (15, (.ifCond .eq 14, 18, 29, 0, 0, .null, [], []))]),
  (31, [(18, (.iload_n 3, 19, 3, 0, 0, .null, [], [])), (19, (.ifCond .lt 10, 22, 29, 0, 0, .null, [], [])), (22, (.iload_n 3, 23, 3, 0, 0, .null, [], [])), (23, (.sipush 9999, 26, 0, 0, 0, .int 9999, [], [])), (26, (.if_icmp .le 5, 29, 31, 0, 0, .null, [], [])), (29, (.iconst (-1), 30, 0, 0, 0, .int (-1), [], [])), (30, (.ireturn, 31, 0, 0, 0, .null, [], [])), (31, (.aload_n 0, 32, 0, 0, 0, .null, [], []))]),
  (38, [(32, (.iload_n 1, 33, 1, 0, 0, .null, [], [])), (33, (.iload_n 2, 34, 2, 0, 0, .null, [], [])), (34, (.iload_n 3, 35, 3, 0, 0, .null, [], [])), (35, (.invokevirtual 273, 38, 110, 4, 0, .ref 9, [], [])), (38, (.ireturn, 39, 0, 0, 0, .null, [], []))])]
def zc_BL_hear : zCd := zFd zl_BL_hear
def zl_BL_lose : List (Nat × List (Nat × zEnt)) := [(15, [(0, (.iload_n 1, 1, 1, 0, 0, .null, [], [])), (1, (.invokestatic 138, 4, 122, 1, 0, .null, [], [])), (4, (.ifCond .eq 14, 7, 18, 0, 0, .null, [], [])), (7, (.aload_n 0, 8, 0, 0, 0, .null, [], [])), (8, (.getfield 32, 11, 9, 3, 2, .null, [], [])), (11, (.iload_n 2, 12, 2, 0, 0, .null, [], [])), (12, (.invokevirtual 141, 15, 6, 2, 0, .ref 0, [], [])), (15, (.ifCond .ne 5, 18, 20, 0, 0, .null, [], []))]),
  (28, [(18, (.iconst (-1), 19, 0, 0, 0, .int (-1), [], [])), (19, (.ireturn, 20, 0, 0, 0, .null, [], [])), (20, (.aload_n 0, 21, 0, 0, 0, .null, [], [])), (21, (.iload_n 1, 22, 1, 0, 0, .null, [], [])), (22, (.iload_n 2, 23, 2, 0, 0, .null, [], [])), (23, (.bipush (-4), 25, 0, 0, 0, .int (-4), [], [])), (25, (.invokevirtual 273, 28, 110, 4, 0, .ref 9, [], [])), (28, (.ireturn, 29, 0, 0, 0, .null, [], []))])]
def zc_BL_lose : zCd := zFd zl_BL_lose
def zl_BL_replaceStamp : List (Nat × List (Nat × zEnt)) := [(12, [(0, (.aload_n 0, 1, 0, 0, 0, .null, [], [])), (1, (.getfield 32, 4, 9, 3, 2, .null, [], [])), (4, (.iload_n 1, 5, 1, 0, 0, .null, [], [])), (5, (.iload_n 2, 6, 2, 0, 0, .null, [], [])), (6, (.invokevirtual 144, 9, 7, 3, 0, .ref 0, [], [])), (9, (.istore 4, 11, 4, 0, 0, .null, [], [])), (11, (.aload_n 0, 12, 0, 0, 0, .null, [], [])), (12, (.getfield 32, 15, 9, 3, 2, .null, [], []))]),
  (26, [(15, (.iload_n 1, 16, 1, 0, 0, .null, [], [])), (16, (.iload_n 2, 17, 2, 0, 0, .null, [], [])), (17, (.iload_n 3, 18, 3, 0, 0, .null, [], [])), (18, (.invokevirtual 277, 21, 8, 4, 9, .ref 0, [], [])), (21, (.aload_n 0, 22, 0, 0, 0, .null, [], [])), (22, (.getfield 24, 25, 9, 2, 2, .null, [], [])), (25, (.iload_n 2, 26, 2, 0, 0, .null, [], [])), (26, (.invokevirtual 281, 29, 79, 2, 9, .ref 8, [], []))]),
  (31, [(29, (.iload 4, 31, 4, 0, 0, .null, [], [])), (31, (.ireturn, 32, 0, 0, 0, .null, [], []))])]
def zc_BL_replaceStamp : zCd := zFd zl_BL_replaceStamp
def zl_BL_shift : List (Nat × List (Nat × zEnt)) := [(15, [(0, (.aload_n 0, 1, 0, 0, 0, .null, [], [])), (1, (.getfield 32, 4, 9, 3, 2, .null, [], [])), (4, (.iload_n 1, 5, 1, 0, 0, .null, [], [])), (5, (.invokevirtual 141, 8, 6, 2, 0, .ref 0, [], [])), (8, (.ifCond .eq 17, 11, 25, 0, 0, .null, [], [])), (11, (.iload_n 2, 12, 2, 0, 0, .null, [], [])), (12, (.sipush (-9999), 15, 0, 0, 0, .int (-9999), [], [])), (15, (.if_icmp .lt 10, 18, 25, 0, 0, .null, [], []))]),
  (31, [(18, (.iload_n 2, 19, 2, 0, 0, .null, [], [])), (19, (.sipush 9999, 22, 0, 0, 0, .int 9999, [], [])), (22, (.if_icmp .le 5, 25, 27, 0, 0, .null, [], [])), (25, (.iconst (-1), 26, 0, 0, 0, .int (-1), [], [])), (26, (.ireturn, 27, 0, 0, 0, .null, [], [])), (27, (.aload_n 0, 28, 0, 0, 0, .null, [], [])), (28, (.getfield 32, 31, 9, 3, 2, .null, [], [])), (31, (.iload_n 1, 32, 1, 0, 0, .null, [], []))]),
  (46, [(32, (.iload_n 2, 33, 2, 0, 0, .null, [], [])), (33, (.invokevirtual 284, 36, 16, 3, 0, .ref 0, [], [])), (36, (.ifCond .ne 6, 39, 42, 0, 0, .null, [], [])), (39, (.bipush (-2), 41, 0, 0, 0, .int (-2), [], [])), (41, (.ireturn, 42, 0, 0, 0, .null, [], [])), (42, (.aload_n 0, 43, 0, 0, 0, .null, [], [])), (43, (.getfield 24, 46, 9, 2, 2, .null, [], [])), (46, (.iload_n 1, 47, 1, 0, 0, .null, [], []))]),
  (59, [(47, (.invokevirtual 281, 50, 79, 2, 9, .ref 8, [], [])), (50, (.aload_n 0, 51, 0, 0, 0, .null, [], [])), (51, (.getfield 32, 54, 9, 3, 2, .null, [], [])), (54, (.iload_n 1, 55, 1, 0, 0, .null, [], [])), (55, (.iload_n 2, 56, 2, 0, 0, .null, [], [])), (56, (.invokevirtual 287, 59, 17, 3, 0, .ref 0, [], [])), (59, (.ireturn, 60, 0, 0, 0, .null, [], []))])]
def zc_BL_shift : zCd := zFd zl_BL_shift
def zl_BL_set : List (Nat × List (Nat × zEnt)) := [(13, [(0, (.iload_n 1, 1, 1, 0, 0, .null, [], [])), (1, (.iconst 2, 2, 0, 0, 0, .int 2, [], [])), (2, (.if_icmp .ne 35, 5, 37, 0, 0, .null, [], [])), (5, (.iload_n 2, 6, 2, 0, 0, .null, [], [])), (6, (.invokestatic 290, 9, 124, 1, 0, .null, [], [])), (9, (.ifCond .eq 28, 12, 37, 0, 0, .null, [], [])), (12, (.aload_n 0, 13, 0, 0, 0, .null, [], [])), (13, (.getfield 32, 16, 9, 3, 2, .null, [], []))]),
  (29, [(16, (.getfield 115, 19, 0, 1, 0, .null, [], [])), (19, (.istore_n 3, 20, 3, 0, 0, .null, [], [])), (20, (.aload_n 0, 21, 0, 0, 0, .null, [], [])), (21, (.getfield 32, 24, 9, 3, 2, .null, [], [])), (24, (.iload_n 2, 25, 2, 0, 0, .null, [], [])), (25, (.putfield 115, 28, 0, 1, 0, .null, [], [])), (28, (.aload_n 0, 29, 0, 0, 0, .null, [], [])), (29, (.getfield 24, 32, 9, 2, 2, .null, [], []))]),
  (43, [(32, (.invokevirtual 102, 35, 80, 1, 9, .ref 8, [], [])), (35, (.iload_n 3, 36, 3, 0, 0, .null, [], [])), (36, (.ireturn, 37, 0, 0, 0, .null, [], [])), (37, (.iload_n 1, 38, 1, 0, 0, .null, [3], [])), (38, (.iconst 3, 39, 0, 0, 0, .int 3, [], [])), (39, (.if_icmp .ne 35, 42, 74, 0, 0, .null, [], [])), (42, (.iload_n 2, 43, 2, 0, 0, .null, [], [])), (43, (.invokestatic 293, 46, 125, 1, 0, .null, [], []))]),
  (61, [(46, (.ifCond .eq 28, 49, 74, 0, 0, .null, [], [])), (49, (.aload_n 0, 50, 0, 0, 0, .null, [], [])), (50, (.getfield 32, 53, 9, 3, 2, .null, [], [])), (53, (.getfield 118, 56, 0, 2, 0, .null, [], [])), (56, (.istore_n 3, 57, 3, 0, 0, .null, [], [])), (57, (.aload_n 0, 58, 0, 0, 0, .null, [], [])), (58, (.getfield 32, 61, 9, 3, 2, .null, [], [])), (61, (.iload_n 2, 62, 2, 0, 0, .null, [], []))]),
  (75, [(62, (.putfield 118, 65, 0, 2, 0, .null, [], [])), (65, (.aload_n 0, 66, 0, 0, 0, .null, [], [])), (66, (.getfield 24, 69, 9, 2, 2, .null, [], [])), (69, (.invokevirtual 102, 72, 80, 1, 9, .ref 8, [], [])), (72, (.iload_n 3, 73, 3, 0, 0, .null, [], [])), (73, (.ireturn, 74, 0, 0, 0, .null, [], [])), (74, (.iconst (-1), 75, 0, 0, 0, .int (-1), [], [])), (75, (.ireturn, 76, 0, 0, 0, .null, [], []))])]
def zc_BL_set : zCd := zFd zl_BL_set
def zl_BL_draw : List (Nat × List (Nat × zEnt)) := [(13, [(0, (.iload_n 2, 1, 2, 0, 0, .null, [], [])), (1, (.invokestatic 296, 4, 123, 1, 0, .null, [], [])), (4, (.ifCond .ne 5, 7, 9, 0, 0, .null, [], [])), (7, (.iconst (-1), 8, 0, 0, 0, .int (-1), [], [])), (8, (.ireturn, 9, 0, 0, 0, .null, [], [])), (9, (.aload_n 0, 10, 0, 0, 0, .null, [], [])), (10, (.getfield 43, 13, 9, 5, 2, .null, [], [])), (13, (.aload_n 0, 14, 0, 0, 0, .null, [], []))]),
  (29, [(14, (.getfield 32, 17, 9, 3, 2, .null, [], [])), (17, (.iload_n 1, 18, 1, 0, 0, .null, [], [])), (18, (.iload_n 2, 19, 2, 0, 0, .null, [], [])), (19, (.invokevirtual 299, 22, 32, 4, 9, .ref 2, [], [])), (22, (.aload_n 0, 23, 0, 0, 0, .null, [], [])), (23, (.getfield 24, 26, 9, 2, 2, .null, [], [])), (26, (.invokevirtual 102, 29, 80, 1, 9, .ref 8, [], [])), (29, (.aload_n 0, 30, 0, 0, 0, .null, [], []))]),
  (36, [(30, (.getfield 32, 33, 9, 3, 2, .null, [], [])), (33, (.invokevirtual 108, 36, 12, 1, 0, .ref 0, [], [])), (36, (.ireturn, 37, 0, 0, 0, .null, [], []))])]
def zc_BL_draw : zCd := zFd zl_BL_draw
def zl_BL_keep : List (Nat × List (Nat × zEnt)) := [(13, [(0, (.iload_n 1, 1, 1, 0, 0, .null, [], [])), (1, (.invokestatic 303, 4, 126, 1, 0, .null, [], [])), (4, (.ifCond .ne 5, 7, 9, 0, 0, .null, [], [])), (7, (.iconst (-1), 8, 0, 0, 0, .int (-1), [], [])), (8, (.ireturn, 9, 0, 0, 0, .null, [], [])), (9, (.aload_n 0, 10, 0, 0, 0, .null, [], [])), (10, (.getfield 60, 13, 9, 8, 2, .null, [], [])), (13, (.iload_n 1, 14, 1, 0, 0, .null, [], []))]),
  (25, [(14, (.baload, 15, 1, 0, 0, .null, [], [])), (15, (.ifCond .eq 7, 18, 22, 0, 0, .null, [], [])), (18, (.iconst 1, 19, 0, 0, 0, .int 1, [], [])), (19, (.goto 4, 22, 23, 0, 0, .null, [], [])), (22, (.iconst 0, 23, 0, 0, 0, .int 0, [], [])), (23, (.istore_n 2, 24, 2, 0, 0, .null, [2], [])), (24, (.aload_n 0, 25, 0, 0, 0, .null, [], [])), (25, (.getfield 56, 28, 9, 7, 2, .null, [], []))]),
  (41, [(28, (.iload_n 1, 29, 1, 0, 0, .null, [], [])), (29, (.aaload, 30, 0, 0, 0, .null, [], [])), (30, (.aload_n 0, 31, 0, 0, 0, .null, [], [])), (31, (.getfield 32, 34, 9, 3, 2, .null, [], [])), (34, (.invokevirtual 98, 37, 10, 2, 9, .ref 0, [], [])), (37, (.aload_n 0, 38, 0, 0, 0, .null, [], [])), (38, (.getfield 60, 41, 9, 8, 2, .null, [], [])), (41, (.iload_n 1, 42, 1, 0, 0, .null, [], []))]),
  (45, [(42, (.iconst 1, 43, 0, 0, 0, .int 1, [], [])), (43, (.bastore, 44, 1, 0, 0, .null, [], [])), (44, (.iload_n 2, 45, 2, 0, 0, .null, [], [])), (45, (.ireturn, 46, 0, 0, 0, .null, [], []))])]
def zc_BL_keep : zCd := zFd zl_BL_keep
def zl_BL_back : List (Nat × List (Nat × zEnt)) := [(13, [(0, (.iload_n 1, 1, 1, 0, 0, .null, [], [])), (1, (.invokestatic 303, 4, 126, 1, 0, .null, [], [])), (4, (.ifCond .ne 5, 7, 9, 0, 0, .null, [], [])), (7, (.iconst (-1), 8, 0, 0, 0, .int (-1), [], [])), (8, (.ireturn, 9, 0, 0, 0, .null, [], [])), (9, (.aload_n 0, 10, 0, 0, 0, .null, [], [])), (10, (.getfield 60, 13, 9, 8, 2, .null, [], [])), (13, (.iload_n 1, 14, 1, 0, 0, .null, [], []))]),
  (26, [(14, (.baload, 15, 1, 0, 0, .null, [], [])), (15, (.ifCond .ne 6, 18, 21, 0, 0, .null, [], [])), (18, (.bipush (-2), 20, 0, 0, 0, .int (-2), [], [])), (20, (.ireturn, 21, 0, 0, 0, .null, [], [])), (21, (.aload_n 0, 22, 0, 0, 0, .null, [], [])), (22, (.getfield 32, 25, 9, 3, 2, .null, [], [])), (25, (.aload_n 0, 26, 0, 0, 0, .null, [], [])), (26, (.getfield 56, 29, 9, 7, 2, .null, [], []))]),
  (42, [(29, (.iload_n 1, 30, 1, 0, 0, .null, [], [])), (30, (.aaload, 31, 0, 0, 0, .null, [], [])), (31, (.invokevirtual 98, 34, 10, 2, 9, .ref 0, [], [])), (34, (.aload_n 0, 35, 0, 0, 0, .null, [], [])), (35, (.getfield 24, 38, 9, 2, 2, .null, [], [])), (38, (.invokevirtual 102, 41, 80, 1, 9, .ref 8, [], [])), (41, (.aload_n 0, 42, 0, 0, 0, .null, [], [])), (42, (.getfield 32, 45, 9, 3, 2, .null, [], []))]),
  (48, [(45, (.invokevirtual 108, 48, 12, 1, 0, .ref 0, [], [])), (48, (.ireturn, 49, 0, 0, 0, .null, [], []))])]
def zc_BL_back : zCd := zFd zl_BL_back
def zl_BL_sheet : List (Nat × List (Nat × zEnt)) := [(15, [(0, (.iload_n 1, 1, 1, 0, 0, .null, [], [])), (1, (.invokestatic 306, 4, 127, 1, 0, .null, [], [])), (4, (.ifCond .eq 16, 7, 20, 0, 0, .null, [], [])), (7, (.iload_n 2, 8, 2, 0, 0, .null, [], [])), (8, (.invokestatic 309, 11, 128, 1, 0, .null, [], [])), (11, (.ifCond .eq 9, 14, 20, 0, 0, .null, [], [])), (14, (.iload_n 3, 15, 3, 0, 0, .null, [], [])), (15, (.bipush 48, 17, 0, 0, 0, .int 48, [], []))]),
  (29, [(17, (.if_icmp .le 5, 20, 22, 0, 0, .null, [], [])), (20, (.iconst (-1), 21, 0, 0, 0, .int (-1), [], [])), (21, (.ireturn, 22, 0, 0, 0, .null, [], [])), (22, (.iload_n 3, 23, 3, 0, 0, .null, [], [])), (23, (.ifCond .ge 6, 26, 29, 0, 0, .null, [], [])), (26, (.bipush (-14), 28, 0, 0, 0, .int (-14), [], [])), (28, (.ireturn, 29, 0, 0, 0, .null, [], [])), (29, (.aload_n 0, 30, 0, 0, 0, .null, [], []))]),
  (41, [(30, (.getfield 66, 33, 9, 9, 2, .null, [], [])), (33, (.iload_n 1, 34, 1, 0, 0, .null, [], [])), (34, (.aaload, 35, 4, 0, 0, .null, [], [])), (35, (.iload_n 2, 36, 2, 0, 0, .null, [], [])), (36, (.iload_n 3, 37, 3, 0, 0, .null, [], [])), (37, (.invokevirtual 312, 40, 47, 3, 9, .ref 4, [], [])), (40, (.iconst 1, 41, 0, 0, 0, .int 1, [], [])), (41, (.ireturn, 42, 0, 0, 0, .null, [], []))])]
def zc_BL_sheet : zCd := zFd zl_BL_sheet
def zl_BL_lay : List (Nat × List (Nat × zEnt)) := [(13, [(0, (.iload_n 1, 1, 1, 0, 0, .null, [], [])), (1, (.invokestatic 306, 4, 127, 1, 0, .null, [], [])), (4, (.ifCond .ne 5, 7, 9, 0, 0, .null, [], [])), (7, (.iconst (-1), 8, 0, 0, 0, .int (-1), [], [])), (8, (.ireturn, 9, 0, 0, 0, .null, [], [])), (9, (.aload_n 0, 10, 0, 0, 0, .null, [], [])), (10, (.getfield 66, 13, 9, 9, 2, .null, [], [])), (13, (.iload_n 1, 14, 1, 0, 0, .null, [], []))]),
  (28, [(14, (.aaload, 15, 4, 0, 0, .null, [], [])), (15, (.astore 4, 17, 4, 0, 0, .null, [], [])), (17, (.aload 4, 19, 4, 0, 0, .null, [], [])), (19, (.invokevirtual 314, 22, 46, 1, 0, .ref 4, [], [])), (22, (.ifCond .eq 6, 25, 28, 0, 0, .null, [], [])), (25, (.bipush (-11), 27, 0, 0, 0, .int (-11), [], [])), (27, (.ireturn, 28, 0, 0, 0, .null, [], [])), (28, (.aload 4, 30, 4, 0, 0, .null, [], []))]),
  (43, [(30, (.iload_n 2, 31, 2, 0, 0, .null, [], [])), (31, (.invokevirtual 318, 34, 48, 2, 0, .ref 4, [], [])), (34, (.ifCond .ne 6, 37, 40, 0, 0, .null, [], [])), (37, (.bipush (-13), 39, 0, 0, 0, .int (-13), [], [])), (39, (.ireturn, 40, 0, 0, 0, .null, [], [])), (40, (.aload 4, 42, 4, 0, 0, .null, [], [])), (42, (.iload_n 2, 43, 2, 0, 0, .null, [], [])), (43, (.iload_n 3, 44, 3, 0, 0, .null, [], []))]),
  (48, [(44, (.invokevirtual 321, 47, 49, 3, 9, .ref 4, [], [])), (47, (.iconst 1, 48, 0, 0, 0, .int 1, [], [])), (48, (.ireturn, 49, 0, 0, 0, .null, [], []))])]
def zc_BL_lay : zCd := zFd zl_BL_lay
def zl_BL_read : List (Nat × List (Nat × zEnt)) := [(15, [(0, (.iload_n 1, 1, 1, 0, 0, .null, [], [])), (1, (.invokestatic 306, 4, 127, 1, 0, .null, [], [])), (4, (.ifCond .eq 34, 7, 38, 0, 0, .null, [], [])), (7, (.iload_n 2, 8, 2, 0, 0, .null, [], [])), (8, (.invokestatic 309, 11, 128, 1, 0, .null, [], [])), (11, (.ifCond .eq 27, 14, 38, 0, 0, .null, [], [])), (14, (.aload_n 0, 15, 0, 0, 0, .null, [], [])), (15, (.getfield 32, 18, 9, 3, 2, .null, [], []))]),
  (35, [(18, (.iload 4, 20, 4, 0, 0, .null, [], [])), (20, (.invokevirtual 141, 23, 6, 2, 0, .ref 0, [], [])), (23, (.ifCond .eq 15, 26, 38, 0, 0, .null, [], [])), (26, (.iload 5, 28, 5, 0, 0, .null, [], [])), (28, (.ifCond .lt 10, 31, 38, 0, 0, .null, [], [])), (31, (.iload 5, 33, 5, 0, 0, .null, [], [])), (33, (.bipush 16, 35, 0, 0, 0, .int 16, [], [])), (35, (.if_icmp .le 5, 38, 40, 0, 0, .null, [], []))]),
  (48, [(38, (.iconst (-1), 39, 0, 0, 0, .int (-1), [], [])), (39, (.ireturn, 40, 0, 0, 0, .null, [], [])), (40, (.iload 5, 42, 5, 0, 0, .null, [], [])), (42, (.ifCond .ne 5, 45, 47, 0, 0, .null, [], [])), (45, (.iconst 0, 46, 0, 0, 0, .int 0, [], [])), (46, (.ireturn, 47, 0, 0, 0, .null, [], [])), (47, (.aload_n 0, 48, 0, 0, 0, .null, [], [])), (48, (.getfield 66, 51, 9, 9, 2, .null, [], []))]),
  (61, [(51, (.iload_n 1, 52, 1, 0, 0, .null, [], [])), (52, (.aaload, 53, 4, 0, 0, .null, [], [])), (53, (.astore 6, 55, 6, 0, 0, .null, [], [])), (55, (.aload 6, 57, 6, 0, 0, .null, [], [])), (57, (.iload_n 2, 58, 2, 0, 0, .null, [], [])), (58, (.iload_n 3, 59, 3, 0, 0, .null, [], [])), (59, (.iload 5, 61, 5, 0, 0, .null, [], [])), (61, (.invokevirtual 324, 64, 50, 4, 0, .ref 4, [], []))]),
  (77, [(64, (.istore 7, 66, 7, 0, 0, .null, [], [])), (66, (.iload 7, 68, 7, 0, 0, .null, [], [])), (68, (.ifCond .eq 6, 71, 74, 0, 0, .null, [], [])), (71, (.iload 7, 73, 7, 0, 0, .null, [], [])), (73, (.ireturn, 74, 0, 0, 0, .null, [], [])), (74, (.iconst 0, 75, 0, 0, 0, .int 0, [], [])), (75, (.istore 8, 77, 8, 0, 0, .null, [], [])), (77, (.iload 8, 79, 8, 0, 0, .null, [1, 2, 7], []))]),
  (94, [(79, (.iload 5, 81, 5, 0, 0, .null, [], [])), (81, (.if_icmp .ge 29, 84, 110, 0, 0, .null, [], [])), (84, (.aload_n 0, 85, 0, 0, 0, .null, [], [])), (85, (.getfield 32, 88, 9, 3, 2, .null, [], [])), (88, (.iload 8, 90, 8, 0, 0, .null, [], [])), (90, (.iload 4, 92, 4, 0, 0, .null, [], [])), (92, (.aload 6, 94, 6, 0, 0, .null, [], [])), (94, (.iload_n 3, 95, 3, 0, 0, .null, [], []))]),
  (111, [(95, (.iload 8, 97, 8, 0, 0, .null, [], [])), (97, (.iadd, 98, 0, 0, 0, .null, [], [])), (98, (.invokevirtual 327, 101, 51, 2, 0, .ref 4, [], [])), (101, (.invokevirtual 277, 104, 8, 4, 9, .ref 0, [], [])), (104, (.iinc 8 1, 107, 8, 0, 0, .int 1, [], [])), (107, (.goto (-30), 110, 77, 0, 0, .null, [], [])), (110, (.aload_n 0, 111, 0, 0, 0, .null, [], [])), (111, (.getfield 24, 114, 9, 2, 2, .null, [], []))]),
  (121, [(114, (.iload 4, 116, 4, 0, 0, .null, [], [])), (116, (.invokevirtual 281, 119, 79, 2, 9, .ref 8, [], [])), (119, (.iload 5, 121, 5, 0, 0, .null, [], [])), (121, (.ireturn, 122, 0, 0, 0, .null, [], []))])]
def zc_BL_read : zCd := zFd zl_BL_read
def zl_BL_count : List (Nat × List (Nat × zEnt)) := [(37, [(0, (.iload_n 1, 1, 1, 0, 0, .null, [], [])), (1, (.tableswitch 67 0 2 #[27, 32, 40], 28, 68, 0, 0, .null, [], [28, 33, 41])), (28, (.aload_n 0, 29, 0, 0, 0, .null, [], [])), (29, (.invokevirtual 330, 32, 120, 1, 0, .ref 9, [], [])), (32, (.ireturn, 33, 0, 0, 0, .null, [], [])), (33, (.aload_n 0, 34, 0, 0, 0, .null, [], [])), (34, (.getfield 20, 37, 9, 1, 2, .null, [], [])), (37, (.getfield 78, 40, 5, 0, 0, .null, [], []))]),
  (53, [(40, (.ireturn, 41, 0, 0, 0, .null, [], [])), (41, (.aload_n 0, 42, 0, 0, 0, .null, [], [])), (42, (.getfield 66, 45, 9, 9, 2, .null, [], [])), (45, (.iconst 0, 46, 0, 0, 0, .int 0, [], [])), (46, (.aaload, 47, 4, 0, 0, .null, [], [])), (47, (.invokevirtual 314, 50, 46, 1, 0, .ref 4, [], [])), (50, (.ifCond .eq 8, 53, 58, 0, 0, .null, [], [])), (53, (.bipush (-4), 55, 0, 0, 0, .int (-4), [], []))]),
  (68, [(55, (.goto 12, 58, 67, 0, 0, .null, [], [])), (58, (.aload_n 0, 59, 0, 0, 0, .null, [], [])), (59, (.getfield 66, 62, 9, 9, 2, .null, [], [])), (62, (.iconst 0, 63, 0, 0, 0, .int 0, [], [])), (63, (.aaload, 64, 4, 0, 0, .null, [], [])), (64, (.getfield 333, 67, 4, 0, 0, .null, [], [])), (67, (.ireturn, 68, 0, 0, 0, .null, [], [])), (68, (.iconst (-1), 69, 0, 0, 0, .int (-1), [], []))]),
  (69, [(69, (.ireturn, 70, 0, 0, 0, .null, [], []))])]
def zc_BL_count : zCd := zFd zl_BL_count
def zl_BL_keptImages : List (Nat × List (Nat × zEnt)) := [(9, [(0, (.iconst 0, 1, 0, 0, 0, .int 0, [], [])), (1, (.istore_n 1, 2, 1, 0, 0, .null, [], [])), (2, (.iconst 0, 3, 0, 0, 0, .int 0, [], [])), (3, (.istore_n 2, 4, 2, 0, 0, .null, [], [])), (4, (.iload_n 2, 5, 2, 0, 0, .null, [], [])), (5, (.iconst 2, 6, 0, 0, 0, .int 2, [], [])), (6, (.if_icmp .ge 21, 9, 27, 0, 0, .null, [], [])), (9, (.aload_n 0, 10, 0, 0, 0, .null, [], []))]),
  (27, [(10, (.getfield 60, 13, 9, 8, 2, .null, [], [])), (13, (.iload_n 2, 14, 2, 0, 0, .null, [], [])), (14, (.baload, 15, 1, 0, 0, .null, [], [])), (15, (.ifCond .eq 6, 18, 21, 0, 0, .null, [], [])), (18, (.iinc 1 1, 21, 1, 0, 0, .int 1, [], [])), (21, (.iinc 2 1, 24, 2, 0, 0, .int 1, [], [])), (24, (.goto (-20), 27, 4, 0, 0, .null, [], [])), (27, (.iload_n 1, 28, 1, 0, 0, .null, [], []))]),
  (28, [(28, (.ireturn, 29, 0, 0, 0, .null, [], []))])]
def zc_BL_keptImages : zCd := zFd zl_BL_keptImages
def zl_BL_isPair : List (Nat × List (Nat × zEnt)) := [(15, [(0, (.aload_n 0, 1, 0, 0, 0, .null, [], [])), (1, (.getfield 32, 4, 9, 3, 2, .null, [], [])), (4, (.iload_n 1, 5, 1, 0, 0, .null, [], [])), (5, (.invokevirtual 141, 8, 6, 2, 0, .ref 0, [], [])), (8, (.ifCond .eq 23, 11, 31, 0, 0, .null, [], [])), (11, (.aload_n 0, 12, 0, 0, 0, .null, [], [])), (12, (.getfield 32, 15, 9, 3, 2, .null, [], [])), (15, (.iload_n 2, 16, 2, 0, 0, .null, [], []))]),
  (31, [(16, (.invokevirtual 141, 19, 6, 2, 0, .ref 0, [], [])), (19, (.ifCond .eq 12, 22, 31, 0, 0, .null, [], [])), (22, (.iload_n 1, 23, 1, 0, 0, .null, [], [])), (23, (.iload_n 2, 24, 2, 0, 0, .null, [], [])), (24, (.if_icmp .eq 7, 27, 31, 0, 0, .null, [], [])), (27, (.iconst 1, 28, 0, 0, 0, .int 1, [], [])), (28, (.goto 4, 31, 32, 0, 0, .null, [], [])), (31, (.iconst 0, 32, 0, 0, 0, .int 0, [], []))]),
  (32, [(32, (.ireturn, 33, 0, 0, 3, .null, [], []))])]
def zc_BL_isPair : zCd := zFd zl_BL_isPair
def zl_BL_isBeacon : List (Nat × List (Nat × zEnt)) := [(14, [(0, (.iload_n 0, 1, 0, 0, 0, .null, [], [])), (1, (.ifCond .lt 13, 4, 14, 0, 0, .null, [], [])), (4, (.iload_n 0, 5, 0, 0, 0, .null, [], [])), (5, (.bipush 16, 7, 0, 0, 0, .int 16, [], [])), (7, (.if_icmp .ge 7, 10, 14, 0, 0, .null, [], [])), (10, (.iconst 1, 11, 0, 0, 0, .int 1, [], [])), (11, (.goto 4, 14, 15, 0, 0, .null, [], [])), (14, (.iconst 0, 15, 0, 0, 0, .int 0, [], []))]),
  (15, [(15, (.ireturn, 16, 0, 0, 3, .null, [], []))])]
def zc_BL_isBeacon : zCd := zFd zl_BL_isBeacon
def zl_BL_isClockCount : List (Nat × List (Nat × zEnt)) := [(12, [(0, (.iload_n 0, 1, 0, 0, 0, .null, [], [])), (1, (.iconst 1, 2, 0, 0, 0, .int 1, [], [])), (2, (.if_icmp .lt 13, 5, 15, 0, 0, .null, [], [])), (5, (.iload_n 0, 6, 0, 0, 0, .null, [], [])), (6, (.bipush 7, 8, 0, 0, 0, .int 7, [], [])), (8, (.if_icmp .gt 7, 11, 15, 0, 0, .null, [], [])), (11, (.iconst 1, 12, 0, 0, 0, .int 1, [], [])), (12, (.goto 4, 15, 16, 0, 0, .null, [], []))]),
  (16, [(15, (.iconst 0, 16, 0, 0, 0, .int 0, [], [])), (16, (.ireturn, 17, 0, 0, 3, .null, [], []))])]
def zc_BL_isClockCount : zCd := zFd zl_BL_isClockCount
def zl_BL_isLimit : List (Nat × List (Nat × zEnt)) := [(14, [(0, (.iload_n 0, 1, 0, 0, 0, .null, [], [])), (1, (.ifCond .lt 13, 4, 14, 0, 0, .null, [], [])), (4, (.iload_n 0, 5, 0, 0, 0, .null, [], [])), (5, (.bipush 99, 7, 0, 0, 0, .int 99, [], [])), (7, (.if_icmp .gt 7, 10, 14, 0, 0, .null, [], [])), (10, (.iconst 1, 11, 0, 0, 0, .int 1, [], [])), (11, (.goto 4, 14, 15, 0, 0, .null, [], [])), (14, (.iconst 0, 15, 0, 0, 0, .int 0, [], []))]),
  (15, [(15, (.ireturn, 16, 0, 0, 3, .null, [], []))])]
def zc_BL_isLimit : zCd := zFd zl_BL_isLimit
def zl_BL_isLeast : List (Nat × List (Nat × zEnt)) := [(12, [(0, (.iload_n 0, 1, 0, 0, 0, .null, [], [])), (1, (.iconst 2, 2, 0, 0, 0, .int 2, [], [])), (2, (.if_icmp .lt 13, 5, 15, 0, 0, .null, [], [])), (5, (.iload_n 0, 6, 0, 0, 0, .null, [], [])), (6, (.bipush 6, 8, 0, 0, 0, .int 6, [], [])), (8, (.if_icmp .gt 7, 11, 15, 0, 0, .null, [], [])), (11, (.iconst 1, 12, 0, 0, 0, .int 1, [], [])), (12, (.goto 4, 15, 16, 0, 0, .null, [], []))]),
  (16, [(15, (.iconst 0, 16, 0, 0, 0, .int 0, [], [])), (16, (.ireturn, 17, 0, 0, 3, .null, [], []))])]
def zc_BL_isLeast : zCd := zFd zl_BL_isLeast
def zl_BL_isImage : List (Nat × List (Nat × zEnt)) := [(13, [(0, (.iload_n 0, 1, 0, 0, 0, .null, [], [])), (1, (.ifCond .lt 12, 4, 13, 0, 0, .null, [], [])), (4, (.iload_n 0, 5, 0, 0, 0, .null, [], [])), (5, (.iconst 2, 6, 0, 0, 0, .int 2, [], [])), (6, (.if_icmp .ge 7, 9, 13, 0, 0, .null, [], [])), (9, (.iconst 1, 10, 0, 0, 0, .int 1, [], [])), (10, (.goto 4, 13, 14, 0, 0, .null, [], [])), (13, (.iconst 0, 14, 0, 0, 0, .int 0, [], []))]),
  (14, [(14, (.ireturn, 15, 0, 0, 3, .null, [], []))])]
def zc_BL_isImage : zCd := zFd zl_BL_isImage
def zl_BL_isSheet : List (Nat × List (Nat × zEnt)) := [(13, [(0, (.iload_n 0, 1, 0, 0, 0, .null, [], [])), (1, (.ifCond .lt 12, 4, 13, 0, 0, .null, [], [])), (4, (.iload_n 0, 5, 0, 0, 0, .null, [], [])), (5, (.iconst 4, 6, 0, 0, 0, .int 4, [], [])), (6, (.if_icmp .ge 7, 9, 13, 0, 0, .null, [], [])), (9, (.iconst 1, 10, 0, 0, 0, .int 1, [], [])), (10, (.goto 4, 13, 14, 0, 0, .null, [], [])), (13, (.iconst 0, 14, 0, 0, 0, .int 0, [], []))]),
  (14, [(14, (.ireturn, 15, 0, 0, 3, .null, [], []))])]
def zc_BL_isSheet : zCd := zFd zl_BL_isSheet
def zl_BL_isLane : List (Nat × List (Nat × zEnt)) := [(13, [(0, (.iload_n 0, 1, 0, 0, 0, .null, [], [])), (1, (.ifCond .lt 12, 4, 13, 0, 0, .null, [], [])), (4, (.iload_n 0, 5, 0, 0, 0, .null, [], [])), (5, (.iconst 3, 6, 0, 0, 0, .int 3, [], [])), (6, (.if_icmp .ge 7, 9, 13, 0, 0, .null, [], [])), (9, (.iconst 1, 10, 0, 0, 0, .int 1, [], [])), (10, (.goto 4, 13, 14, 0, 0, .null, [], [])), (13, (.iconst 0, 14, 0, 0, 0, .int 0, [], []))]),
  (14, [(14, (.ireturn, 15, 0, 0, 3, .null, [], []))])]
def zc_BL_isLane : zCd := zFd zl_BL_isLane
def zl_Mo_init : List (Nat × List (Nat × zEnt)) := [(15, [(0, (.aload_n 0, 1, 0, 0, 0, .null, [], [])), (1, (.invokespecial 1, 4, 0, 0, 0, .double 0, [], [])), (4, (.aload_n 0, 5, 0, 0, 0, .null, [], [])), (5, (.bipush 115, 7, 0, 0, 0, .int 115, [], [])), (7, (.newarray .int, 9, 0, 0, 0, .null, [], [])), (9, (.putfield 7, 12, 10, 0, 2, .null, [], [])), (12, (.aload_n 0, 13, 0, 0, 0, .null, [], [])), (13, (.bipush 115, 15, 0, 0, 0, .int 115, [], [])), (15, (.newarray .int, 17, 0, 0, 0, .null, [], []))]),
  (33, [(17, (.putfield 13, 20, 10, 1, 2, .null, [], [])), (20, (.aload_n 0, 21, 0, 0, 0, .null, [], [])), (21, (.sipush 230, 24, 0, 0, 0, .int 230, [], [])), (24, (.newarray .int, 26, 0, 0, 0, .null, [], [])), (26, (.putfield 16, 29, 10, 2, 2, .null, [], [])), (29, (.aload_n 0, 30, 0, 0, 0, .null, [1], [])), (30, (.iconst 2, 31, 0, 0, 0, .int 2, [], [])), (31, (.newarray .boolean, 33, 1, 0, 0, .null, [], [])), (33, (.putfield 19, 36, 10, 3, 2, .null, [], []))]),
  (53, [(36, (.aload_n 0, 37, 0, 0, 0, .null, [], [])), (37, (.sipush 300, 40, 0, 0, 0, .int 300, [], [])), (40, (.newarray .int, 42, 0, 0, 0, .null, [], [])), (42, (.putfield 23, 45, 10, 4, 2, .null, [], [])), (45, (.aload_n 0, 46, 0, 0, 0, .null, [], [])), (46, (.bipush 16, 48, 0, 0, 0, .int 16, [], [])), (48, (.newarray .boolean, 50, 1, 0, 0, .null, [], [])), (50, (.putfield 26, 53, 10, 22, 2, .null, [], [])), (53, (.aload_n 0, 54, 0, 0, 0, .null, [], []))]),
  (70, [(54, (.bipush 16, 56, 0, 0, 0, .int 16, [], [])), (56, (.newarray .int, 58, 0, 0, 0, .null, [], [])), (58, (.putfield 29, 61, 10, 23, 2, .null, [], [])), (61, (.aload_n 0, 62, 0, 0, 0, .null, [], [])), (62, (.bipush 49, 64, 0, 0, 0, .int 49, [], [])), (64, (.newarray .int, 66, 0, 0, 0, .null, [], [])), (66, (.putfield 32, 69, 10, 25, 2, .null, [], [])), (69, (.aload_n 0, 70, 0, 0, 0, .null, [], [])), (70, (.bipush 7, 72, 0, 0, 0, .int 7, [], []))]),
  (88, [(72, (.newarray .int, 74, 0, 0, 0, .null, [], [])), (74, (.putfield 35, 77, 10, 26, 2, .null, [], [])), (77, (.aload_n 0, 78, 0, 0, 0, .null, [], [])), (78, (.bipush 7, 80, 0, 0, 0, .int 7, [], [])), (80, (.newarray .int, 82, 0, 0, 0, .null, [], [])), (82, (.putfield 38, 85, 10, 27, 2, .null, [], [])), (85, (.aload_n 0, 86, 0, 0, 0, .null, [], [])), (86, (.bipush 7, 88, 0, 0, 0, .int 7, [], [])), (88, (.newarray .int, 90, 0, 0, 0, .null, [], []))]),
  (106, [(90, (.putfield 41, 93, 10, 28, 2, .null, [], [])), (93, (.aload_n 0, 94, 0, 0, 0, .null, [], [])), (94, (.bipush 7, 96, 0, 0, 0, .int 7, [], [])), (96, (.newarray .int, 98, 0, 0, 0, .null, [], [])), (98, (.putfield 44, 101, 10, 34, 2, .null, [], [])), (101, (.aload_n 0, 102, 0, 0, 0, .null, [1], [])), (102, (.bipush 7, 104, 0, 0, 0, .int 7, [], [])), (104, (.newarray .int, 106, 0, 0, 0, .null, [], [])), (106, (.putfield 47, 109, 10, 35, 2, .null, [], []))]),
  (123, [(109, (.aload_n 0, 110, 0, 0, 0, .null, [], [])), (110, (.iconst 4, 111, 0, 0, 0, .int 4, [], [])), (111, (.newarray .int, 113, 0, 0, 0, .null, [], [])), (113, (.putfield 50, 116, 10, 36, 2, .null, [], [])), (116, (.aload_n 0, 117, 0, 0, 0, .null, [], [])), (117, (.iconst 4, 118, 0, 0, 0, .int 4, [], [])), (118, (.newarray .int, 120, 0, 0, 0, .null, [], [])), (120, (.putfield 53, 123, 10, 37, 2, .null, [], [])), (123, (.aload_n 0, 124, 0, 0, 0, .null, [], []))]),
  (139, [(124, (.sipush 192, 127, 0, 0, 0, .int 192, [], [])), (127, (.newarray .int, 129, 0, 0, 0, .null, [], [])), (129, (.putfield 56, 132, 10, 38, 2, .null, [], [])), (132, (.aload_n 0, 133, 0, 0, 0, .null, [], [])), (133, (.getfield 7, 136, 10, 0, 2, .null, [], [])), (136, (.iconst 0, 137, 0, 0, 0, .int 0, [], [])), (137, (.iconst 1, 138, 0, 0, 0, .int 1, [], [])), (138, (.iastore, 139, 0, 0, 0, .null, [], [])), (139, (.aload_n 0, 140, 0, 0, 0, .null, [], []))]),
  (152, [(140, (.getfield 7, 143, 10, 0, 2, .null, [], [])), (143, (.iconst 1, 144, 0, 0, 0, .int 1, [], [])), (144, (.iconst 2, 145, 0, 0, 0, .int 2, [], [])), (145, (.iastore, 146, 0, 0, 0, .null, [], [])), (146, (.aload_n 0, 147, 0, 0, 0, .null, [], [])), (147, (.getfield 7, 150, 10, 0, 2, .null, [], [])), (150, (.iconst 2, 151, 0, 0, 0, .int 2, [], [])), (151, (.iconst 3, 152, 0, 0, 0, .int 3, [], [])), (152, (.iastore, 153, 0, 0, 0, .null, [], []))]),
  (167, [(153, (.aload_n 0, 154, 0, 0, 0, .null, [], [])), (154, (.getfield 7, 157, 10, 0, 2, .null, [], [])), (157, (.invokestatic 59, 160, 132, 1, 9, .null, [], [])), (160, (.iconst 0, 161, 0, 0, 0, .int 0, [], [])), (161, (.istore_n 1, 162, 1, 0, 0, .null, [], [])), (162, (.iload_n 1, 163, 1, 0, 0, .null, [], [])), (163, (.iconst 4, 164, 0, 0, 0, .int 4, [], [])), (164, (.if_icmp .ge 17, 167, 181, 0, 0, .null, [], [])), (167, (.aload_n 0, 168, 0, 0, 0, .null, [], []))]),
  (181, [(168, (.getfield 50, 171, 10, 36, 2, .null, [], [])), (171, (.iload_n 1, 172, 1, 0, 0, .null, [], [])), (172, (.bipush (-4), 174, 0, 0, 0, .int (-4), [], [])), (174, (.iastore, 175, 0, 0, 0, .null, [], [])), (175, (.iinc 1 1, 178, 1, 0, 0, .int 1, [], [])), (178, (.goto (-16), 181, 162, 0, 0, .null, [], [])), (181, (.return_, 182, 0, 0, 0, .null, [], [1]))])]
def zc_Mo_init : zCd := zFd zl_Mo_init
def zl_Mo_in : List (Nat × List (Nat × zEnt)) := [(10, [(0, (.lload_n 0, 1, 0, 0, 0, .null, [], [])), (1, (.lload_n 2, 2, 2, 0, 0, .null, [], [])), (2, (.lcmp, 3, 0, 0, 0, .null, [], [])), (3, (.ifCond .lt 14, 6, 17, 0, 0, .null, [], [])), (6, (.lload_n 0, 7, 0, 0, 0, .null, [], [])), (7, (.lload 4, 9, 4, 0, 0, .null, [], [])), (9, (.lcmp, 10, 0, 0, 0, .null, [], [])), (10, (.ifCond .gt 7, 13, 17, 0, 0, .null, [], []))]),
  (18, [(13, (.iconst 1, 14, 0, 0, 0, .int 1, [], [])), (14, (.goto 4, 17, 18, 0, 0, .null, [], [])), (17, (.iconst 0, 18, 0, 0, 0, .int 0, [], [])), (18, (.ireturn, 19, 0, 0, 3, .null, [], []))])]
def zc_Mo_in : zCd := zFd zl_Mo_in
def zl_Mo_flag : List (Nat × List (Nat × zEnt)) := [(9, [(0, (.iload_n 0, 1, 0, 0, 0, .null, [], [])), (1, (.ifCond .eq 7, 4, 8, 0, 0, .null, [], [])), (4, (.iconst 1, 5, 0, 0, 0, .int 1, [], [])), (5, (.goto 4, 8, 9, 0, 0, .null, [], [])), (8, (.iconst 0, 9, 0, 0, 0, .int 0, [], [])), (9, (.ireturn, 10, 0, 0, 0, .null, [], []))])]
def zc_Mo_flag : zCd := zFd zl_Mo_flag
def zl_Mo_empties : List (Nat × List (Nat × zEnt)) := [(10, [(0, (.iconst 3, 1, 0, 0, 0, .int 3, [], [])), (1, (.istore_n 1, 2, 1, 0, 0, .null, [], [])), (2, (.iload_n 1, 3, 1, 0, 0, .null, [], [])), (3, (.bipush 115, 5, 0, 0, 0, .int 115, [], [])), (5, (.if_icmp .ge 14, 8, 19, 0, 0, .null, [], [])), (8, (.aload_n 0, 9, 0, 0, 0, .null, [], [])), (9, (.iload_n 1, 10, 1, 0, 0, .null, [], [])), (10, (.bipush (-4), 12, 0, 0, 0, .int (-4), [], []))]),
  (19, [(12, (.iastore, 13, 0, 0, 0, .null, [], [])), (13, (.iinc 1 1, 16, 1, 0, 0, .int 1, [], [])), (16, (.goto (-14), 19, 2, 0, 0, .null, [], [])), (19, (.return_, 20, 0, 0, 0, .null, [], []))])]
def zc_Mo_empties : zCd := zFd zl_Mo_empties
def zl_Mo_at : List (Nat × List (Nat × zEnt)) := [(8, [(0, (.iconst 3, 1, 0, 0, 0, .int 3, [], [])), (1, (.bipush 16, 3, 0, 0, 0, .int 16, [], [])), (3, (.iload_n 1, 4, 1, 0, 0, .null, [], [])), (4, (.imul, 5, 0, 0, 0, .null, [], [])), (5, (.iadd, 6, 0, 0, 0, .null, [], [])), (6, (.iload_n 0, 7, 0, 0, 0, .null, [], [])), (7, (.iadd, 8, 0, 0, 0, .null, [], [])), (8, (.ireturn, 9, 0, 0, 0, .null, [], []))])]
def zc_Mo_at : zCd := zFd zl_Mo_at
def zl_Mo_feed : List (Nat × List (Nat × zEnt)) := [(13, [(0, (.iload_n 1, 1, 1, 0, 0, .null, [], [])), (1, (.i2l, 2, 0, 0, 0, .null, [], [])), (2, (.lconst 0, 3, 0, 0, 0, .long 0, [], [])), (3, (.ldc2_w 63, 6, 0, 0, 0, .long 127, [], [])), (6, (.invokestatic 65, 9, 130, 3, 0, .null, [], [])), (9, (.ifCond .ne 5, 12, 14, 0, 0, .null, [], [])), (12, (.iconst (-1), 13, 0, 0, 0, .int (-1), [], [])), (13, (.ireturn, 14, 0, 0, 0, .null, [], []))]),
  (28, [(14, (.aload_n 0, 15, 0, 0, 0, .null, [], [])), (15, (.getfield 69, 18, 10, 5, 0, .null, [], [])), (18, (.sipush 300, 21, 0, 0, 0, .int 300, [], [])), (21, (.if_icmp .ne 6, 24, 27, 0, 0, .null, [], [])), (24, (.bipush (-3), 26, 0, 0, 0, .int (-3), [], [])), (26, (.ireturn, 27, 0, 0, 0, .null, [], [])), (27, (.aload_n 0, 28, 0, 0, 0, .null, [], [])), (28, (.getfield 23, 31, 10, 4, 2, .null, [], []))]),
  (42, [(31, (.aload_n 0, 32, 0, 0, 0, .null, [], [])), (32, (.getfield 69, 35, 10, 5, 0, .null, [], [])), (35, (.iload_n 1, 36, 1, 0, 0, .null, [], [])), (36, (.iastore, 37, 0, 0, 0, .null, [], [])), (37, (.aload_n 0, 38, 0, 0, 0, .null, [], [])), (38, (.dup, 39, 0, 0, 0, .null, [], [])), (39, (.getfield 69, 42, 10, 5, 0, .null, [], [])), (42, (.iconst 1, 43, 0, 0, 0, .int 1, [], []))]),
  (51, [(43, (.iadd, 44, 0, 0, 0, .null, [], [])), (44, (.putfield 69, 47, 10, 5, 0, .null, [], [])), (47, (.aload_n 0, 48, 0, 0, 0, .null, [], [])), (48, (.getfield 69, 51, 10, 5, 0, .null, [], [])), (51, (.ireturn, 52, 0, 0, 0, .null, [], []))])]
def zc_Mo_feed : zCd := zFd zl_Mo_feed
def zl_Mo_end : List (Nat × List (Nat × zEnt)) := [(11, [(0, (.iload_n 1, 1, 1, 0, 0, .null, [], [])), (1, (.i2l, 2, 0, 0, 0, .null, [], [])), (2, (.lconst 0, 3, 0, 0, 0, .long 0, [], [])), (3, (.aload_n 0, 4, 0, 0, 0, .null, [], [])), (4, (.getfield 69, 7, 10, 5, 0, .null, [], [])), (7, (.i2l, 8, 0, 0, 0, .null, [], [])), (8, (.invokestatic 65, 11, 130, 3, 0, .null, [], [])), (11, (.ifCond .ne 5, 14, 16, 0, 0, .null, [], []))]),
  (23, [(14, (.iconst (-1), 15, 0, 0, 0, .int (-1), [], [])), (15, (.ireturn, 16, 0, 0, 0, .null, [], [])), (16, (.aload_n 0, 17, 0, 0, 0, .null, [], [])), (17, (.getfield 69, 20, 10, 5, 0, .null, [], [])), (20, (.istore_n 2, 21, 2, 0, 0, .null, [], [])), (21, (.aload_n 0, 22, 0, 0, 0, .null, [], [])), (22, (.iload_n 1, 23, 1, 0, 0, .null, [], [])), (23, (.putfield 69, 26, 10, 5, 0, .null, [], []))]),
  (27, [(26, (.iload_n 2, 27, 2, 0, 0, .null, [], [])), (27, (.ireturn, 28, 0, 0, 0, .null, [], []))])]
def zc_Mo_end : zCd := zFd zl_Mo_end
def zl_Mo_requires : List (Nat × List (Nat × zEnt)) := [(13, [(0, (.iload_n 1, 1, 1, 0, 0, .null, [], [])), (1, (.ifCond .ne 23, 4, 24, 0, 0, .null, [], [])), (4, (.aload_n 0, 5, 0, 0, 0, .null, [], [])), (5, (.getfield 73, 8, 10, 10, 0, .null, [], [])), (8, (.ifCond .ne 16, 11, 24, 0, 0, .null, [], [])), (11, (.aload_n 0, 12, 0, 0, 0, .null, [], [])), (12, (.iload_n 2, 13, 2, 0, 0, .null, [], [])), (13, (.putfield 73, 16, 10, 10, 0, .null, [], []))]),
  (24, [(16, (.aload_n 0, 17, 0, 0, 0, .null, [], [])), (17, (.aload_n 0, 18, 0, 0, 0, .null, [], [])), (18, (.getfield 76, 21, 10, 7, 0, .null, [], [])), (21, (.putfield 79, 24, 10, 11, 0, .null, [], [])), (24, (.return_, 25, 0, 0, 0, .null, [], []))])]
def zc_Mo_requires : zCd := zFd zl_Mo_requires
def zl_Mo_byteAt : List (Nat × List (Nat × zEnt)) := [(13, [(0, (.iload_n 1, 1, 1, 0, 0, .null, [], [])), (1, (.aload_n 0, 2, 0, 0, 0, .null, [], [])), (2, (.getfield 69, 5, 10, 5, 0, .null, [], [])), (5, (.if_icmp .ge 12, 8, 17, 0, 0, .null, [], [])), (8, (.aload_n 0, 9, 0, 0, 0, .null, [], [])), (9, (.getfield 23, 12, 10, 4, 2, .null, [], [])), (12, (.iload_n 1, 13, 1, 0, 0, .null, [], [])), (13, (.iaload, 14, 0, 0, 0, .null, [], []))]),
  (18, [(14, (.goto 4, 17, 18, 0, 0, .null, [], [])), (17, (.iconst (-1), 18, 0, 0, 0, .int (-1), [], [])), (18, (.ireturn, 19, 0, 0, 0, .null, [], []))])]
def zc_Mo_byteAt : zCd := zFd zl_Mo_byteAt
def zl_Mo_is : List (Nat × List (Nat × zEnt)) := [(13, [(0, (.aload_n 0, 1, 0, 0, 0, .null, [], [])), (1, (.getfield 82, 4, 10, 8, 0, .null, [], [])), (4, (.iconst 1, 5, 0, 0, 0, .int 1, [], [])), (5, (.if_icmp .ne 51, 8, 56, 0, 0, .null, [], [])), (8, (.aload_n 0, 9, 0, 0, 0, .null, [], [])), (9, (.getfield 85, 12, 10, 6, 0, .null, [], [])), (12, (.aload_n 0, 13, 0, 0, 0, .null, [], [])), (13, (.getfield 76, 16, 10, 7, 0, .null, [], []))]),
  (27, [(16, (.isub, 17, 0, 0, 0, .null, [], [])), (17, (.iload_n 1, 18, 1, 0, 0, .null, [], [])), (18, (.if_icmp .ne 38, 21, 56, 0, 0, .null, [], [])), (21, (.aload_n 0, 22, 0, 0, 0, .null, [], [])), (22, (.aload_n 0, 23, 0, 0, 0, .null, [], [])), (23, (.getfield 76, 26, 10, 7, 0, .null, [], [])), (26, (.iload_n 2, 27, 2, 0, 0, .null, [], [])), (27, (.iadd, 28, 0, 0, 0, .null, [], []))]),
  (41, [(28, (.invokevirtual 88, 31, 137, 2, 0, .ref 10, [], [])), (31, (.iload_n 3, 32, 3, 0, 0, .null, [], [])), (32, (.if_icmp .ne 24, 35, 56, 0, 0, .null, [], [])), (35, (.aload_n 0, 36, 0, 0, 0, .null, [], [])), (36, (.aload_n 0, 37, 0, 0, 0, .null, [], [])), (37, (.getfield 76, 40, 10, 7, 0, .null, [], [])), (40, (.iload_n 2, 41, 2, 0, 0, .null, [], [])), (41, (.iadd, 42, 0, 0, 0, .null, [], []))]),
  (56, [(42, (.iconst 1, 43, 0, 0, 0, .int 1, [], [])), (43, (.iadd, 44, 0, 0, 0, .null, [], [])), (44, (.invokevirtual 88, 47, 137, 2, 0, .ref 10, [], [])), (47, (.iload 4, 49, 4, 0, 0, .null, [], [])), (49, (.if_icmp .ne 7, 52, 56, 0, 0, .null, [], [])), (52, (.iconst 1, 53, 0, 0, 0, .int 1, [], [])), (53, (.goto 4, 56, 57, 0, 0, .null, [], [])), (56, (.iconst 0, 57, 0, 0, 0, .int 0, [], []))]),
  (57, [(57, (.ireturn, 58, 0, 0, 3, .null, [], []))])]
def zc_Mo_is : zCd := zFd zl_Mo_is
def zl_Mo_lineNow : List (Nat × List (Nat × zEnt)) := [(15, [(0, (.aload_n 0, 1, 0, 0, 0, .null, [], [])), (1, (.bipush 6, 3, 0, 0, 0, .int 6, [], [])), (3, (.iconst 0, 4, 0, 0, 0, .int 0, [], [])), (4, (.bipush 99, 6, 0, 0, 0, .int 99, [], [])), (6, (.bipush 108, 8, 0, 0, 0, .int 108, [], [])), (8, (.invokevirtual 92, 11, 138, 5, 0, .ref 10, [], [])), (11, (.ifCond .eq 33, 14, 44, 0, 0, .null, [], [])), (14, (.aload_n 0, 15, 0, 0, 0, .null, [], [])), (15, (.bipush 6, 17, 0, 0, 0, .int 6, [], []))]),
  (32, [(17, (.iconst 2, 18, 0, 0, 0, .int 2, [], [])), (18, (.bipush 111, 20, 0, 0, 0, .int 111, [], [])), (20, (.bipush 99, 22, 0, 0, 0, .int 99, [], [])), (22, (.invokevirtual 92, 25, 138, 5, 0, .ref 10, [], [])), (25, (.ifCond .eq 19, 28, 44, 0, 0, .null, [], [])), (28, (.aload_n 0, 29, 0, 0, 0, .null, [], [])), (29, (.bipush 6, 31, 0, 0, 0, .int 6, [], [])), (31, (.iconst 4, 32, 0, 0, 0, .int 4, [], [])), (32, (.bipush 107, 34, 0, 0, 0, .int 107, [], []))]),
  (47, [(34, (.bipush 115, 36, 0, 0, 0, .int 115, [], [])), (36, (.invokevirtual 92, 39, 138, 5, 0, .ref 10, [], [])), (39, (.ifCond .eq 5, 42, 44, 0, 0, .null, [], [])), (42, (.iconst 0, 43, 0, 0, 0, .int 0, [], [])), (43, (.ireturn, 44, 0, 0, 0, .null, [], [])), (44, (.aload_n 0, 45, 0, 0, 0, .null, [], [])), (45, (.iconst 4, 46, 0, 0, 0, .int 4, [], [])), (46, (.iconst 0, 47, 0, 0, 0, .int 0, [], [])), (47, (.bipush 104, 49, 0, 0, 0, .int 104, [], []))]),
  (64, [(49, (.bipush 101, 51, 0, 0, 0, .int 101, [], [])), (51, (.invokevirtual 92, 54, 138, 5, 0, .ref 10, [], [])), (54, (.ifCond .eq 18, 57, 72, 0, 0, .null, [], [])), (57, (.aload_n 0, 58, 0, 0, 0, .null, [], [])), (58, (.iconst 4, 59, 0, 0, 0, .int 4, [], [])), (59, (.iconst 2, 60, 0, 0, 0, .int 2, [], [])), (60, (.bipush 97, 62, 0, 0, 0, .int 97, [], [])), (62, (.bipush 114, 64, 0, 0, 0, .int 114, [], [])), (64, (.invokevirtual 92, 67, 138, 5, 0, .ref 10, [], []))]),
  (79, [(67, (.ifCond .eq 5, 70, 72, 0, 0, .null, [], [])), (70, (.iconst 1, 71, 0, 0, 0, .int 1, [], [])), (71, (.ireturn, 72, 0, 0, 0, .null, [], [])), (72, (.aload_n 0, 73, 0, 0, 0, .null, [], [])), (73, (.iconst 5, 74, 0, 0, 0, .int 5, [], [])), (74, (.iconst 0, 75, 0, 0, 0, .int 0, [], [])), (75, (.bipush 108, 77, 0, 0, 0, .int 108, [], [])), (77, (.bipush 105, 79, 0, 0, 0, .int 105, [], [])), (79, (.invokevirtual 92, 82, 138, 5, 0, .ref 10, [], []))]),
  (98, [(82, (.ifCond .eq 31, 85, 113, 0, 0, .null, [], [])), (85, (.aload_n 0, 86, 0, 0, 0, .null, [], [])), (86, (.iconst 5, 87, 0, 0, 0, .int 5, [], [])), (87, (.iconst 2, 88, 0, 0, 0, .int 2, [], [])), (88, (.bipush 109, 90, 0, 0, 0, .int 109, [], [])), (90, (.bipush 105, 92, 0, 0, 0, .int 105, [], [])), (92, (.invokevirtual 92, 95, 138, 5, 0, .ref 10, [], [])), (95, (.ifCond .eq 18, 98, 113, 0, 0, .null, [], [])), (98, (.aload_n 0, 99, 0, 0, 0, .null, [], []))]),
  (113, [(99, (.iconst 5, 100, 0, 0, 0, .int 5, [], [])), (100, (.iconst 3, 101, 0, 0, 0, .int 3, [], [])), (101, (.bipush 105, 103, 0, 0, 0, .int 105, [], [])), (103, (.bipush 116, 105, 0, 0, 0, .int 116, [], [])), (105, (.invokevirtual 92, 108, 138, 5, 0, .ref 10, [], [])), (108, (.ifCond .eq 5, 111, 113, 0, 0, .null, [], [])), (111, (.iconst 2, 112, 0, 0, 0, .int 2, [], [])), (112, (.ireturn, 113, 0, 0, 0, .null, [], [])), (113, (.aload_n 0, 114, 0, 0, 0, .null, [], []))]),
  (128, [(114, (.iconst 5, 115, 0, 0, 0, .int 5, [], [])), (115, (.iconst 0, 116, 0, 0, 0, .int 0, [], [])), (116, (.bipush 108, 118, 0, 0, 0, .int 108, [], [])), (118, (.bipush 101, 120, 0, 0, 0, .int 101, [], [])), (120, (.invokevirtual 92, 123, 138, 5, 0, .ref 10, [], [])), (123, (.ifCond .eq 33, 126, 156, 0, 0, .null, [], [])), (126, (.aload_n 0, 127, 0, 0, 0, .null, [], [])), (127, (.iconst 5, 128, 0, 0, 0, .int 5, [], [])), (128, (.iconst 2, 129, 0, 0, 0, .int 2, [], []))]),
  (144, [(129, (.bipush 97, 131, 0, 0, 0, .int 97, [], [])), (131, (.bipush 115, 133, 0, 0, 0, .int 115, [], [])), (133, (.invokevirtual 92, 136, 138, 5, 0, .ref 10, [], [])), (136, (.ifCond .eq 20, 139, 156, 0, 0, .null, [], [])), (139, (.aload_n 0, 140, 0, 0, 0, .null, [], [])), (140, (.iconst 5, 141, 0, 0, 0, .int 5, [], [])), (141, (.iconst 3, 142, 0, 0, 0, .int 3, [], [])), (142, (.bipush 115, 144, 0, 0, 0, .int 115, [], [])), (144, (.bipush 116, 146, 0, 0, 0, .int 116, [], []))]),
  (158, [(146, (.invokevirtual 92, 149, 138, 5, 0, .ref 10, [], [])), (149, (.ifCond .eq 7, 152, 156, 0, 0, .null, [], [])), (152, (.iconst 3, 153, 0, 0, 0, .int 3, [], [])), (153, (.goto 5, 156, 158, 0, 0, .null, [], [])), (156, (.bipush (-4), 158, 0, 0, 0, .int (-4), [], [])), (158, (.ireturn, 159, 0, 0, 0, .null, [], []))])]
def zc_Mo_lineNow : zCd := zFd zl_Mo_lineNow
def zl_Mo_reads : List (Nat × List (Nat × zEnt)) := [(21, [(0, (.aload_n 0, 1, 0, 0, 0, .null, [], [])), (1, (.getfield 73, 4, 10, 10, 0, .null, [], [])), (4, (.ifCond .le 4, 7, 8, 0, 0, .null, [], [])), (7, (.return_, 8, 0, 0, 0, .null, [], [])), (8, (.aload_n 0, 9, 0, 0, 0, .null, [1], [])), (9, (.aload_n 0, 10, 0, 0, 0, .null, [], [])), (10, (.getfield 85, 13, 10, 6, 0, .null, [], [])), (13, (.invokevirtual 88, 16, 137, 2, 0, .ref 10, [], [])), (16, (.bipush 32, 18, 0, 0, 0, .int 32, [], [])), (18, (.if_icmp .ne 16, 21, 34, 0, 0, .null, [], [])), (21, (.aload_n 0, 22, 0, 0, 0, .null, [], []))]),
  (42, [(22, (.dup, 23, 0, 0, 0, .null, [], [])), (23, (.getfield 85, 26, 10, 6, 0, .null, [], [])), (26, (.iconst 1, 27, 0, 0, 0, .int 1, [], [])), (27, (.iadd, 28, 0, 0, 0, .null, [], [])), (28, (.putfield 85, 31, 10, 6, 0, .null, [], [])), (31, (.goto (-23), 34, 8, 0, 0, .null, [], [])), (34, (.aload_n 0, 35, 0, 0, 0, .null, [], [])), (35, (.aload_n 0, 36, 0, 0, 0, .null, [], [])), (36, (.getfield 85, 39, 10, 6, 0, .null, [], [])), (39, (.putfield 76, 42, 10, 7, 0, .null, [], [])), (42, (.aload_n 0, 43, 0, 0, 0, .null, [1], []))]),
  (63, [(43, (.aload_n 0, 44, 0, 0, 0, .null, [], [])), (44, (.getfield 85, 47, 10, 6, 0, .null, [], [])), (47, (.invokevirtual 88, 50, 137, 2, 0, .ref 10, [], [])), (50, (.istore_n 1, 51, 1, 0, 0, .null, [], [])), (51, (.iload_n 1, 52, 1, 0, 0, .null, [], [])), (52, (.ifCond .ge 11, 55, 63, 0, 0, .null, [], [])), (55, (.aload_n 0, 56, 0, 0, 0, .null, [], [])), (56, (.iconst 0, 57, 0, 0, 0, .int 0, [], [])), (57, (.putfield 82, 60, 10, 8, 0, .null, [], [])), (60, (.goto 214, 63, 274, 0, 0, .null, [], [])), (63, (.iload_n 1, 64, 1, 0, 0, .null, [], []))]),
  (84, [(64, (.i2l, 65, 0, 0, 0, .null, [], [])), (65, (.ldc2_w 96, 68, 0, 0, 0, .long 97, [], [])), (68, (.ldc2_w 98, 71, 0, 0, 0, .long 122, [], [])), (71, (.invokestatic 65, 74, 130, 3, 0, .null, [], [])), (74, (.ifCond .eq 42, 77, 116, 0, 0, .null, [], [])), (77, (.aload_n 0, 78, 0, 0, 0, .null, [], [])), (78, (.iconst 1, 79, 0, 0, 0, .int 1, [], [])), (79, (.putfield 82, 82, 10, 8, 0, .null, [], [])), (82, (.aload_n 0, 83, 0, 0, 0, .null, [1], [])), (83, (.aload_n 0, 84, 0, 0, 0, .null, [], [])), (84, (.getfield 85, 87, 10, 6, 0, .null, [], []))]),
  (109, [(87, (.invokevirtual 88, 90, 137, 2, 0, .ref 10, [], [])), (90, (.i2l, 91, 0, 0, 0, .null, [], [])), (91, (.ldc2_w 96, 94, 0, 0, 0, .long 97, [], [])), (94, (.ldc2_w 98, 97, 0, 0, 0, .long 122, [], [])), (97, (.invokestatic 65, 100, 130, 3, 0, .null, [], [])), (100, (.ifCond .eq 174, 103, 274, 0, 0, .null, [], [])), (103, (.aload_n 0, 104, 0, 0, 0, .null, [], [])), (104, (.dup, 105, 0, 0, 0, .null, [], [])), (105, (.getfield 85, 108, 10, 6, 0, .null, [], [])), (108, (.iconst 1, 109, 0, 0, 0, .int 1, [], [])), (109, (.iadd, 110, 0, 0, 0, .null, [], []))]),
  (132, [(110, (.putfield 85, 113, 10, 6, 0, .null, [], [])), (113, (.goto (-31), 116, 82, 0, 0, .null, [], [])), (116, (.iload_n 1, 117, 1, 0, 0, .null, [], [])), (117, (.i2l, 118, 0, 0, 0, .null, [], [])), (118, (.ldc2_w 100, 121, 0, 0, 0, .long 48, [], [])), (121, (.ldc2_w 102, 124, 0, 0, 0, .long 57, [], [])), (124, (.invokestatic 65, 127, 130, 3, 0, .null, [], [])), (127, (.ifCond .eq 116, 130, 243, 0, 0, .null, [], [])), (130, (.aload_n 0, 131, 0, 0, 0, .null, [], [])), (131, (.iconst 2, 132, 0, 0, 0, .int 2, [], [])), (132, (.putfield 82, 135, 10, 8, 0, .null, [], []))]),
  (155, [(135, (.aload_n 0, 136, 0, 0, 0, .null, [], [])), (136, (.iconst 0, 137, 0, 0, 0, .int 0, [], [])), (137, (.putfield 104, 140, 10, 9, 0, .null, [], [])), (140, (.aload_n 0, 141, 0, 0, 0, .null, [1], [])), (141, (.aload_n 0, 142, 0, 0, 0, .null, [], [])), (142, (.getfield 85, 145, 10, 6, 0, .null, [], [])), (145, (.invokevirtual 88, 148, 137, 2, 0, .ref 10, [], [])), (148, (.i2l, 149, 0, 0, 0, .null, [], [])), (149, (.ldc2_w 100, 152, 0, 0, 0, .long 48, [], [])), (152, (.ldc2_w 102, 155, 0, 0, 0, .long 57, [], [])), (155, (.invokestatic 65, 158, 130, 3, 0, .null, [], []))]),
  (177, [(158, (.ifCond .eq 59, 161, 217, 0, 0, .null, [], [])), (161, (.aload_n 0, 162, 0, 0, 0, .null, [], [])), (162, (.aload_n 0, 163, 0, 0, 0, .null, [], [])), (163, (.getfield 85, 166, 10, 6, 0, .null, [], [])), (166, (.aload_n 0, 167, 0, 0, 0, .null, [], [])), (167, (.getfield 76, 170, 10, 7, 0, .null, [], [])), (170, (.isub, 171, 0, 0, 0, .null, [], [])), (171, (.iconst 4, 172, 0, 0, 0, .int 4, [], [])), (172, (.if_icmp .ge 25, 175, 197, 0, 0, .null, [], [])), (175, (.bipush 10, 177, 0, 0, 0, .int 10, [], [])), (177, (.aload_n 0, 178, 0, 0, 0, .null, [], []))]),
  (197, [(178, (.getfield 104, 181, 10, 9, 0, .null, [], [])), (181, (.imul, 182, 0, 0, 0, .null, [], [])), (182, (.aload_n 0, 183, 0, 0, 0, .null, [], [])), (183, (.aload_n 0, 184, 0, 0, 0, .null, [], [])), (184, (.getfield 85, 187, 10, 6, 0, .null, [], [])), (187, (.invokevirtual 88, 190, 137, 2, 0, .ref 10, [], [])), (190, (.iadd, 191, 0, 0, 0, .null, [], [])), (191, (.bipush 48, 193, 0, 0, 0, .int 48, [], [])), (193, (.isub, 194, 0, 0, 0, .null, [], [])), (194, (.goto 7, 197, 201, 0, 0, .null, [], [])), (197, (.aload_n 0, 198, 0, 0, 0, .null, [], []))]),
  (218, [(198, (.getfield 104, 201, 10, 9, 0, .null, [], [])), (201, (.putfield 104, 204, 10, 9, 0, .null, [], [])), (204, (.aload_n 0, 205, 0, 0, 0, .null, [], [])), (205, (.dup, 206, 0, 0, 0, .null, [], [])), (206, (.getfield 85, 209, 10, 6, 0, .null, [], [])), (209, (.iconst 1, 210, 0, 0, 0, .int 1, [], [])), (210, (.iadd, 211, 0, 0, 0, .null, [], [])), (211, (.putfield 85, 214, 10, 6, 0, .null, [], [])), (214, (.goto (-74), 217, 140, 0, 0, .null, [], [])), (217, (.aload_n 0, 218, 0, 0, 0, .null, [], [])), (218, (.aload_n 0, 219, 0, 0, 0, .null, [], []))]),
  (237, [(219, (.getfield 85, 222, 10, 6, 0, .null, [], [])), (222, (.aload_n 0, 223, 0, 0, 0, .null, [], [])), (223, (.getfield 76, 226, 10, 7, 0, .null, [], [])), (226, (.isub, 227, 0, 0, 0, .null, [], [])), (227, (.iconst 4, 228, 0, 0, 0, .int 4, [], [])), (228, (.if_icmp .gt 7, 231, 235, 0, 0, .null, [], [])), (231, (.iconst 1, 232, 0, 0, 0, .int 1, [], [])), (232, (.goto 4, 235, 236, 0, 0, .null, [], [])), (235, (.iconst 0, 236, 0, 0, 0, .int 0, [], [])), (236, (.iconst 1, 237, 0, 0, 0, .int 1, [], [])), (237, (.invokevirtual 107, 240, 136, 3, 9, .ref 10, [], []))]),
  (259, [(240, (.goto 34, 243, 274, 0, 0, .null, [], [])), (243, (.aload_n 0, 244, 0, 0, 0, .null, [], [])), (244, (.iconst 3, 245, 0, 0, 0, .int 3, [], [])), (245, (.putfield 82, 248, 10, 8, 0, .null, [], [])), (248, (.aload_n 0, 249, 0, 0, 0, .null, [], [])), (249, (.iload_n 1, 250, 1, 0, 0, .null, [], [])), (250, (.bipush 59, 252, 0, 0, 0, .int 59, [], [])), (252, (.if_icmp .ne 7, 255, 259, 0, 0, .null, [], [])), (255, (.iconst 1, 256, 0, 0, 0, .int 1, [], [])), (256, (.goto 4, 259, 260, 0, 0, .null, [], [])), (259, (.iconst 0, 260, 0, 0, 0, .int 0, [], []))]),
  (274, [(260, (.iconst 1, 261, 0, 0, 0, .int 1, [], [])), (261, (.invokevirtual 107, 264, 136, 3, 9, .ref 10, [], [])), (264, (.aload_n 0, 265, 0, 0, 0, .null, [], [])), (265, (.dup, 266, 0, 0, 0, .null, [], [])), (266, (.getfield 85, 269, 10, 6, 0, .null, [], [])), (269, (.iconst 1, 270, 0, 0, 0, .int 1, [], [])), (270, (.iadd, 271, 0, 0, 0, .null, [], [])), (271, (.putfield 85, 274, 10, 6, 0, .null, [], [])), (274, (.return_, 275, 0, 0, 0, .null, [], []))])]
def zc_Mo_reads : zCd := zFd zl_Mo_reads
def zl_Mo_numberNow : List (Nat × List (Nat × zEnt)) := [(13, [(0, (.aload_n 0, 1, 0, 0, 0, .null, [], [])), (1, (.getfield 73, 4, 10, 10, 0, .null, [], [])), (4, (.ifCond .ne 21, 7, 25, 0, 0, .null, [], [])), (7, (.aload_n 0, 8, 0, 0, 0, .null, [], [])), (8, (.aload_n 0, 9, 0, 0, 0, .null, [], [])), (9, (.getfield 82, 12, 10, 8, 0, .null, [], [])), (12, (.iconst 2, 13, 0, 0, 0, .int 2, [], [])), (13, (.if_icmp .ne 7, 16, 20, 0, 0, .null, [], []))]),
  (29, [(16, (.iconst 1, 17, 0, 0, 0, .int 1, [], [])), (17, (.goto 4, 20, 21, 0, 0, .null, [], [])), (20, (.iconst 0, 21, 0, 0, 0, .int 0, [], [])), (21, (.iconst 2, 22, 0, 0, 0, .int 2, [], [])), (22, (.invokevirtual 107, 25, 136, 3, 9, .ref 10, [], [])), (25, (.aload_n 0, 26, 0, 0, 0, .null, [], [])), (26, (.getfield 73, 29, 10, 10, 0, .null, [], [])), (29, (.ifCond .ne 20, 32, 49, 0, 0, .null, [], []))]),
  (41, [(32, (.aload_n 0, 33, 0, 0, 0, .null, [], [])), (33, (.aload_n 0, 34, 0, 0, 0, .null, [], [])), (34, (.getfield 104, 37, 10, 9, 0, .null, [], [])), (37, (.i2l, 38, 0, 0, 0, .null, [], [])), (38, (.iload_n 1, 39, 1, 0, 0, .null, [], [])), (39, (.i2l, 40, 0, 0, 0, .null, [], [])), (40, (.iload_n 2, 41, 2, 0, 0, .null, [], [])), (41, (.i2l, 42, 0, 0, 0, .null, [], []))]),
  (57, [(42, (.invokestatic 65, 45, 130, 3, 0, .null, [], [])), (45, (.iconst 3, 46, 0, 0, 0, .int 3, [], [])), (46, (.invokevirtual 107, 49, 136, 3, 9, .ref 10, [], [])), (49, (.aload_n 0, 50, 0, 0, 0, .null, [], [])), (50, (.getfield 73, 53, 10, 10, 0, .null, [], [])), (53, (.ifCond .ne 10, 56, 63, 0, 0, .null, [], [])), (56, (.aload_n 0, 57, 0, 0, 0, .null, [], [])), (57, (.getfield 104, 60, 10, 9, 0, .null, [], []))]),
  (64, [(60, (.goto 4, 63, 64, 0, 0, .null, [], [])), (63, (.iconst 0, 64, 0, 0, 0, .int 0, [], [])), (64, (.ireturn, 65, 0, 0, 0, .null, [], []))])]
def zc_Mo_numberNow : zCd := zFd zl_Mo_numberNow
def zl_Mo_readNumber : List (Nat × List (Nat × zEnt)) := [(11, [(0, (.aload_n 0, 1, 0, 0, 0, .null, [], [])), (1, (.iload_n 1, 2, 1, 0, 0, .null, [], [])), (2, (.iload_n 2, 3, 2, 0, 0, .null, [], [])), (3, (.invokevirtual 111, 6, 141, 3, 0, .ref 10, [], [])), (6, (.istore_n 3, 7, 3, 0, 0, .null, [], [])), (7, (.aload_n 0, 8, 0, 0, 0, .null, [], [])), (8, (.invokevirtual 115, 11, 140, 1, 9, .ref 10, [], [])), (11, (.iload_n 3, 12, 3, 0, 0, .null, [], []))]),
  (12, [(12, (.ireturn, 13, 0, 0, 0, .null, [], []))])]
def zc_Mo_readNumber : zCd := zFd zl_Mo_readNumber
def zl_Mo_readStop : List (Nat × List (Nat × zEnt)) := [(13, [(0, (.aload_n 0, 1, 0, 0, 0, .null, [], [])), (1, (.getfield 73, 4, 10, 10, 0, .null, [], [])), (4, (.ifCond .ne 21, 7, 25, 0, 0, .null, [], [])), (7, (.aload_n 0, 8, 0, 0, 0, .null, [], [])), (8, (.aload_n 0, 9, 0, 0, 0, .null, [], [])), (9, (.getfield 82, 12, 10, 8, 0, .null, [], [])), (12, (.iconst 3, 13, 0, 0, 0, .int 3, [], [])), (13, (.if_icmp .ne 7, 16, 20, 0, 0, .null, [], []))]),
  (29, [(16, (.iconst 1, 17, 0, 0, 0, .int 1, [], [])), (17, (.goto 4, 20, 21, 0, 0, .null, [], [])), (20, (.iconst 0, 21, 0, 0, 0, .int 0, [], [])), (21, (.iconst 2, 22, 0, 0, 0, .int 2, [], [])), (22, (.invokevirtual 107, 25, 136, 3, 9, .ref 10, [], [])), (25, (.aload_n 0, 26, 0, 0, 0, .null, [], [])), (26, (.invokevirtual 115, 29, 140, 1, 9, .ref 10, [], [])), (29, (.return_, 30, 0, 0, 0, .null, [], []))])]
def zc_Mo_readStop : zCd := zFd zl_Mo_readStop
def zl_Mo_readHear : List (Nat × List (Nat × zEnt)) := [(10, [(0, (.aload_n 0, 1, 0, 0, 0, .null, [], [])), (1, (.iconst 0, 2, 0, 0, 0, .int 0, [], [])), (2, (.bipush 15, 4, 0, 0, 0, .int 15, [], [])), (4, (.invokevirtual 118, 7, 142, 3, 0, .ref 10, [], [])), (7, (.istore_n 1, 8, 1, 0, 0, .null, [], [])), (8, (.aload_n 0, 9, 0, 0, 0, .null, [], [])), (9, (.iconst 0, 10, 0, 0, 0, .int 0, [], [])), (10, (.aload_n 0, 11, 0, 0, 0, .null, [], []))]),
  (22, [(11, (.getfield 13, 14, 10, 1, 2, .null, [], [])), (14, (.iconst 0, 15, 0, 0, 0, .int 0, [], [])), (15, (.iaload, 16, 0, 0, 0, .null, [], [])), (16, (.iconst 1, 17, 0, 0, 0, .int 1, [], [])), (17, (.isub, 18, 0, 0, 0, .null, [], [])), (18, (.invokevirtual 111, 21, 141, 3, 0, .ref 10, [], [])), (21, (.istore_n 2, 22, 2, 0, 0, .null, [], [])), (22, (.aload_n 0, 23, 0, 0, 0, .null, [], []))]),
  (36, [(23, (.getfield 73, 26, 10, 10, 0, .null, [], [])), (26, (.ifCond .ne 28, 29, 54, 0, 0, .null, [], [])), (29, (.aload_n 0, 30, 0, 0, 0, .null, [], [])), (30, (.aload_n 0, 31, 0, 0, 0, .null, [], [])), (31, (.getfield 13, 34, 10, 1, 2, .null, [], [])), (34, (.iload_n 1, 35, 1, 0, 0, .null, [], [])), (35, (.iload_n 2, 36, 2, 0, 0, .null, [], [])), (36, (.invokestatic 121, 39, 133, 2, 0, .null, [], []))]),
  (51, [(39, (.iaload, 40, 0, 0, 0, .null, [], [])), (40, (.bipush (-4), 42, 0, 0, 0, .int (-4), [], [])), (42, (.if_icmp .ne 7, 45, 49, 0, 0, .null, [], [])), (45, (.iconst 1, 46, 0, 0, 0, .int 1, [], [])), (46, (.goto 4, 49, 50, 0, 0, .null, [], [])), (49, (.iconst 0, 50, 0, 0, 0, .int 0, [], [])), (50, (.iconst 4, 51, 0, 0, 0, .int 4, [], [])), (51, (.invokevirtual 107, 54, 136, 3, 9, .ref 10, [], []))]),
  (67, [(54, (.aload_n 0, 55, 0, 0, 0, .null, [3], [])), (55, (.invokevirtual 115, 58, 140, 1, 9, .ref 10, [], [])), (58, (.aload_n 0, 59, 0, 0, 0, .null, [], [])), (59, (.iconst 0, 60, 0, 0, 0, .int 0, [], [])), (60, (.sipush 9999, 63, 0, 0, 0, .int 9999, [], [])), (63, (.invokevirtual 118, 66, 142, 3, 0, .ref 10, [], [])), (66, (.istore_n 3, 67, 3, 0, 0, .null, [], [])), (67, (.aload_n 0, 68, 0, 0, 0, .null, [], []))]),
  (83, [(68, (.getfield 73, 71, 10, 10, 0, .null, [], [])), (71, (.ifCond .ne 14, 74, 85, 0, 0, .null, [], [])), (74, (.aload_n 0, 75, 0, 0, 0, .null, [], [])), (75, (.getfield 13, 78, 10, 1, 2, .null, [], [])), (78, (.iload_n 1, 79, 1, 0, 0, .null, [], [])), (79, (.iload_n 2, 80, 2, 0, 0, .null, [], [])), (80, (.invokestatic 121, 83, 133, 2, 0, .null, [], [])), (83, (.iload_n 3, 84, 3, 0, 0, .null, [], []))]),
  (85, [(84, (.iastore, 85, 0, 0, 0, .null, [], [])), (85, (.return_, 86, 0, 0, 0, .null, [], []))])]
def zc_Mo_readHear : zCd := zFd zl_Mo_readHear
def zl_Mo_readLine : List (Nat × List (Nat × zEnt)) := [(12, [(0, (.aload_n 0, 1, 0, 0, 0, .null, [], [])), (1, (.invokevirtual 124, 4, 139, 1, 0, .ref 10, [], [])), (4, (.istore_n 1, 5, 1, 0, 0, .null, [], [])), (5, (.aload_n 0, 6, 0, 0, 0, .null, [], [])), (6, (.iload_n 1, 7, 1, 0, 0, .null, [], [])), (7, (.bipush (-4), 9, 0, 0, 0, .int (-4), [], [])), (9, (.if_icmp .eq 11, 12, 20, 0, 0, .null, [], [])), (12, (.iload_n 1, 13, 1, 0, 0, .null, [], []))]),
  (26, [(13, (.ifCond .eq 7, 16, 20, 0, 0, .null, [], [])), (16, (.iconst 1, 17, 0, 0, 0, .int 1, [], [])), (17, (.goto 4, 20, 21, 0, 0, .null, [], [])), (20, (.iconst 0, 21, 0, 0, 0, .int 0, [], [])), (21, (.iconst 2, 22, 0, 0, 0, .int 2, [], [])), (22, (.invokevirtual 107, 25, 136, 3, 9, .ref 10, [], [])), (25, (.aload_n 0, 26, 0, 0, 0, .null, [], [])), (26, (.iload_n 1, 27, 1, 0, 0, .null, [], []))]),
  (42, [(27, (.iconst 2, 28, 0, 0, 0, .int 2, [], [])), (28, (.if_icmp .ne 10, 31, 38, 0, 0, .null, [], [])), (31, (.aload_n 0, 32, 0, 0, 0, .null, [], [])), (32, (.getfield 128, 35, 10, 12, 0, .null, [], [])), (35, (.ifCond .ne 7, 38, 42, 0, 0, .null, [], [])), (38, (.iconst 1, 39, 0, 0, 0, .int 1, [], [])), (39, (.goto 4, 42, 43, 0, 0, .null, [], [])), (42, (.iconst 0, 43, 0, 0, 0, .int 0, [], []))]),
  (54, [(43, (.iconst 4, 44, 0, 0, 0, .int 4, [], [])), (44, (.invokevirtual 107, 47, 136, 3, 9, .ref 10, [], [])), (47, (.aload_n 0, 48, 0, 0, 0, .null, [], [])), (48, (.iload_n 1, 49, 1, 0, 0, .null, [], [])), (49, (.iconst 3, 50, 0, 0, 0, .int 3, [], [])), (50, (.if_icmp .ne 10, 53, 60, 0, 0, .null, [], [])), (53, (.aload_n 0, 54, 0, 0, 0, .null, [], [])), (54, (.getfield 132, 57, 10, 13, 0, .null, [], []))]),
  (70, [(57, (.ifCond .ne 7, 60, 64, 0, 0, .null, [], [])), (60, (.iconst 1, 61, 0, 0, 0, .int 1, [], [])), (61, (.goto 4, 64, 65, 0, 0, .null, [], [])), (64, (.iconst 0, 65, 0, 0, 0, .int 0, [], [])), (65, (.iconst 4, 66, 0, 0, 0, .int 4, [], [])), (66, (.invokevirtual 107, 69, 136, 3, 9, .ref 10, [], [])), (69, (.aload_n 0, 70, 0, 0, 0, .null, [], [])), (70, (.invokevirtual 115, 73, 140, 1, 9, .ref 10, [], []))]),
  (86, [(73, (.aload_n 0, 74, 0, 0, 0, .null, [], [])), (74, (.getfield 73, 77, 10, 10, 0, .null, [], [])), (77, (.ifCond .le 4, 80, 81, 0, 0, .null, [], [])), (80, (.return_, 81, 0, 0, 0, .null, [], [])), (81, (.iload_n 1, 82, 1, 0, 0, .null, [], [])), (82, (.iconst 1, 83, 0, 0, 0, .int 1, [], [])), (83, (.if_icmp .ne 10, 86, 93, 0, 0, .null, [], [])), (86, (.aload_n 0, 87, 0, 0, 0, .null, [], []))]),
  (100, [(87, (.invokevirtual 135, 90, 144, 1, 9, .ref 10, [], [])), (90, (.goto 47, 93, 137, 0, 0, .null, [], [])), (93, (.iload_n 1, 94, 1, 0, 0, .null, [], [])), (94, (.iconst 2, 95, 0, 0, 0, .int 2, [], [])), (95, (.if_icmp .ne 24, 98, 119, 0, 0, .null, [], [])), (98, (.aload_n 0, 99, 0, 0, 0, .null, [], [])), (99, (.iconst 1, 100, 0, 0, 0, .int 1, [], [])), (100, (.putfield 128, 103, 10, 12, 3, .null, [], []))]),
  (115, [(103, (.aload_n 0, 104, 0, 0, 0, .null, [], [])), (104, (.getfield 13, 107, 10, 1, 2, .null, [], [])), (107, (.iconst 1, 108, 0, 0, 0, .int 1, [], [])), (108, (.aload_n 0, 109, 0, 0, 0, .null, [], [])), (109, (.iconst 0, 110, 0, 0, 0, .int 0, [], [])), (110, (.bipush 99, 112, 0, 0, 0, .int 99, [], [])), (112, (.invokevirtual 118, 115, 142, 3, 0, .ref 10, [], [])), (115, (.iastore, 116, 0, 0, 0, .null, [], []))]),
  (129, [(116, (.goto 21, 119, 137, 0, 0, .null, [], [])), (119, (.aload_n 0, 120, 0, 0, 0, .null, [], [])), (120, (.iconst 1, 121, 0, 0, 0, .int 1, [], [])), (121, (.putfield 132, 124, 10, 13, 3, .null, [], [])), (124, (.aload_n 0, 125, 0, 0, 0, .null, [], [])), (125, (.getfield 13, 128, 10, 1, 2, .null, [], [])), (128, (.iconst 2, 129, 0, 0, 0, .int 2, [], [])), (129, (.aload_n 0, 130, 0, 0, 0, .null, [], []))]),
  (141, [(130, (.iconst 2, 131, 0, 0, 0, .int 2, [], [])), (131, (.bipush 6, 133, 0, 0, 0, .int 6, [], [])), (133, (.invokevirtual 118, 136, 142, 3, 0, .ref 10, [], [])), (136, (.iastore, 137, 0, 0, 0, .null, [], [])), (137, (.aload_n 0, 138, 0, 0, 0, .null, [], [])), (138, (.invokevirtual 138, 141, 143, 1, 9, .ref 10, [], [])), (141, (.return_, 142, 0, 0, 0, .null, [], []))])]
def zc_Mo_readLine : zCd := zFd zl_Mo_readLine
def zl_Mo_text : List (Nat × List (Nat × zEnt)) := [(15, [(0, (.aload_n 0, 1, 0, 0, 0, .null, [], [])), (1, (.iconst 0, 2, 0, 0, 0, .int 0, [], [])), (2, (.putfield 73, 5, 10, 10, 0, .null, [], [])), (5, (.aload_n 0, 6, 0, 0, 0, .null, [], [])), (6, (.iconst 0, 7, 0, 0, 0, .int 0, [], [])), (7, (.putfield 85, 10, 10, 6, 0, .null, [], [])), (10, (.aload_n 0, 11, 0, 0, 0, .null, [], [])), (11, (.iconst 0, 12, 0, 0, 0, .int 0, [], [])), (12, (.putfield 128, 15, 10, 12, 3, .null, [], [])), (15, (.aload_n 0, 16, 0, 0, 0, .null, [], []))]),
  (31, [(16, (.iconst 0, 17, 0, 0, 0, .int 0, [], [])), (17, (.putfield 132, 20, 10, 13, 3, .null, [], [])), (20, (.aload_n 0, 21, 0, 0, 0, .null, [1], [])), (21, (.getfield 13, 24, 10, 1, 2, .null, [], [])), (24, (.iconst 1, 25, 0, 0, 0, .int 1, [], [])), (25, (.aload_n 0, 26, 0, 0, 0, .null, [], [])), (26, (.getfield 7, 29, 10, 0, 2, .null, [], [])), (29, (.iconst 1, 30, 0, 0, 0, .int 1, [], [])), (30, (.iaload, 31, 0, 0, 0, .null, [], [])), (31, (.iastore, 32, 0, 0, 0, .null, [], []))]),
  (45, [(32, (.aload_n 0, 33, 0, 0, 0, .null, [], [])), (33, (.getfield 13, 36, 10, 1, 2, .null, [], [])), (36, (.iconst 2, 37, 0, 0, 0, .int 2, [], [])), (37, (.aload_n 0, 38, 0, 0, 0, .null, [], [])), (38, (.getfield 7, 41, 10, 0, 2, .null, [], [])), (41, (.iconst 2, 42, 0, 0, 0, .int 2, [], [])), (42, (.iaload, 43, 0, 0, 0, .null, [], [])), (43, (.iastore, 44, 0, 0, 0, .null, [], [])), (44, (.aload_n 0, 45, 0, 0, 0, .null, [], [])), (45, (.getfield 13, 48, 10, 1, 2, .null, [], []))]),
  (67, [(48, (.invokestatic 59, 51, 132, 1, 9, .null, [], [])), (51, (.aload_n 0, 52, 0, 0, 0, .null, [], [])), (52, (.invokevirtual 115, 55, 140, 1, 9, .ref 10, [], [])), (55, (.aload_n 0, 56, 0, 0, 0, .null, [], [])), (56, (.aload_n 0, 57, 0, 0, 0, .null, [], [])), (57, (.invokevirtual 124, 60, 139, 1, 0, .ref 10, [], [])), (60, (.ifCond .ne 7, 63, 67, 0, 0, .null, [], [])), (63, (.iconst 1, 64, 0, 0, 0, .int 1, [], [])), (64, (.goto 4, 67, 68, 0, 0, .null, [], [])), (67, (.iconst 0, 68, 0, 0, 0, .int 0, [], []))]),
  (83, [(68, (.iconst 2, 69, 0, 0, 0, .int 2, [], [])), (69, (.invokevirtual 107, 72, 136, 3, 9, .ref 10, [], [])), (72, (.aload_n 0, 73, 0, 0, 0, .null, [], [])), (73, (.invokevirtual 115, 76, 140, 1, 9, .ref 10, [], [])), (76, (.aload_n 0, 77, 0, 0, 0, .null, [], [])), (77, (.getfield 13, 80, 10, 1, 2, .null, [], [])), (80, (.iconst 0, 81, 0, 0, 0, .int 0, [], [])), (81, (.aload_n 0, 82, 0, 0, 0, .null, [], [])), (82, (.iconst 1, 83, 0, 0, 0, .int 1, [], [])), (83, (.bipush 7, 85, 0, 0, 0, .int 7, [], []))]),
  (104, [(85, (.invokevirtual 118, 88, 142, 3, 0, .ref 10, [], [])), (88, (.iastore, 89, 0, 0, 0, .null, [], [])), (89, (.aload_n 0, 90, 0, 0, 0, .null, [], [])), (90, (.invokevirtual 138, 93, 143, 1, 9, .ref 10, [], [])), (93, (.aload_n 0, 94, 0, 0, 0, .null, [1], [])), (94, (.getfield 73, 97, 10, 10, 0, .null, [], [])), (97, (.ifCond .ne 17, 100, 114, 0, 0, .null, [], [])), (100, (.aload_n 0, 101, 0, 0, 0, .null, [], [])), (101, (.getfield 82, 104, 10, 8, 0, .null, [], [])), (104, (.ifCond .eq 10, 107, 114, 0, 0, .null, [], []))]),
  (126, [(107, (.aload_n 0, 108, 0, 0, 0, .null, [], [])), (108, (.invokevirtual 141, 111, 145, 1, 9, .ref 10, [], [])), (111, (.goto (-18), 114, 93, 0, 0, .null, [], [])), (114, (.aload_n 0, 115, 0, 0, 0, .null, [], [])), (115, (.iconst 0, 116, 0, 0, 0, .int 0, [], [])), (116, (.putfield 69, 119, 10, 5, 0, .null, [], [])), (119, (.aload_n 0, 120, 0, 0, 0, .null, [], [])), (120, (.getfield 73, 123, 10, 10, 0, .null, [], [])), (123, (.ifCond .le 11, 126, 134, 0, 0, .null, [], [])), (126, (.bipush (-10), 128, 0, 0, 0, .int (-10), [], []))]),
  (142, [(128, (.aload_n 0, 129, 0, 0, 0, .null, [], [])), (129, (.getfield 79, 132, 10, 11, 0, .null, [], [])), (132, (.isub, 133, 0, 0, 0, .null, [], [])), (133, (.ireturn, 134, 0, 0, 0, .null, [], [])), (134, (.iconst 0, 135, 0, 0, 0, .int 0, [], [])), (135, (.istore_n 1, 136, 1, 0, 0, .null, [], [])), (136, (.iload_n 1, 137, 1, 0, 0, .null, [], [])), (137, (.bipush 115, 139, 0, 0, 0, .int 115, [], [])), (139, (.if_icmp .ge 21, 142, 160, 0, 0, .null, [], [])), (142, (.aload_n 0, 143, 0, 0, 0, .null, [], []))]),
  (160, [(143, (.getfield 7, 146, 10, 0, 2, .null, [], [])), (146, (.iload_n 1, 147, 1, 0, 0, .null, [], [])), (147, (.aload_n 0, 148, 0, 0, 0, .null, [], [])), (148, (.getfield 13, 151, 10, 1, 2, .null, [], [])), (151, (.iload_n 1, 152, 1, 0, 0, .null, [], [])), (152, (.iaload, 153, 0, 0, 0, .null, [], [])), (153, (.iastore, 154, 0, 0, 0, .null, [], [])), (154, (.iinc 1 1, 157, 1, 0, 0, .int 1, [], [])), (157, (.goto (-21), 160, 136, 0, 0, .null, [], [])), (160, (.aload_n 0, 161, 0, 0, 0, .null, [], []))]),
  (174, [(161, (.getfield 19, 164, 10, 3, 2, .null, [], [])), (164, (.iconst 0, 165, 0, 0, 0, .int 0, [], [])), (165, (.iconst 0, 166, 0, 0, 0, .int 0, [], [])), (166, (.bastore, 167, 1, 0, 0, .null, [], [])), (167, (.aload_n 0, 168, 0, 0, 0, .null, [], [])), (168, (.getfield 19, 171, 10, 3, 2, .null, [], [])), (171, (.iconst 1, 172, 0, 0, 0, .int 1, [], [])), (172, (.iconst 0, 173, 0, 0, 0, .int 0, [], [])), (173, (.bastore, 174, 1, 0, 0, .null, [], [])), (174, (.aload_n 0, 175, 0, 0, 0, .null, [], []))]),
  (178, [(175, (.invokevirtual 144, 178, 151, 1, 0, .ref 10, [], [])), (178, (.ireturn, 179, 0, 0, 0, .null, [], []))])]
def zc_Mo_text : zCd := zFd zl_Mo_text
def zl_Mo_fault : List (Nat × List (Nat × zEnt)) := [(4, [(0, (.aload_n 0, 1, 0, 0, 0, .null, [], [])), (1, (.getfield 73, 4, 10, 10, 0, .null, [], [])), (4, (.ireturn, 5, 0, 0, 0, .null, [], []))])]
def zc_Mo_fault : zCd := zFd zl_Mo_fault
def zl_Mo_isClock : List (Nat × List (Nat × zEnt)) := [(9, [(0, (.iload_n 1, 1, 1, 0, 0, .null, [], [])), (1, (.i2l, 2, 0, 0, 0, .null, [], [])), (2, (.lconst 0, 3, 0, 0, 0, .long 0, [], [])), (3, (.aload_n 0, 4, 0, 0, 0, .null, [], [])), (4, (.getfield 7, 7, 10, 0, 2, .null, [], [])), (7, (.iconst 0, 8, 0, 0, 0, .int 0, [], [])), (8, (.iaload, 9, 0, 0, 0, .null, [], [])), (9, (.iconst 1, 10, 0, 0, 0, .int 1, [], []))]),
  (15, [(10, (.isub, 11, 0, 0, 0, .null, [], [])), (11, (.i2l, 12, 0, 0, 0, .null, [], [])), (12, (.invokestatic 65, 15, 130, 3, 0, .null, [], [])), (15, (.ireturn, 16, 0, 0, 3, .null, [], []))])]
def zc_Mo_isClock : zCd := zFd zl_Mo_isClock
def zl_Mo_isBeacon : List (Nat × List (Nat × zEnt)) := [(9, [(0, (.iload_n 0, 1, 0, 0, 0, .null, [], [])), (1, (.i2l, 2, 0, 0, 0, .null, [], [])), (2, (.lconst 0, 3, 0, 0, 0, .long 0, [], [])), (3, (.ldc2_w 147, 6, 0, 0, 0, .long 15, [], [])), (6, (.invokestatic 65, 9, 130, 3, 0, .null, [], [])), (9, (.ireturn, 10, 0, 0, 3, .null, [], []))])]
def zc_Mo_isBeacon : zCd := zFd zl_Mo_isBeacon
def zl_Mo_stampsOf : List (Nat × List (Nat × zEnt)) := [(10, [(0, (.iconst 0, 1, 0, 0, 0, .int 0, [], [])), (1, (.istore_n 2, 2, 2, 0, 0, .null, [], [])), (2, (.iconst 0, 3, 0, 0, 0, .int 0, [], [])), (3, (.istore_n 3, 4, 3, 0, 0, .null, [], [])), (4, (.iload_n 3, 5, 3, 0, 0, .null, [], [])), (5, (.bipush 16, 7, 0, 0, 0, .int 16, [], [])), (7, (.if_icmp .ge 35, 10, 42, 0, 0, .null, [], [])), (10, (.iload_n 2, 11, 2, 0, 0, .null, [], []))]),
  (23, [(11, (.aload_n 0, 12, 0, 0, 0, .null, [], [])), (12, (.getfield 7, 15, 10, 0, 2, .null, [], [])), (15, (.iload_n 3, 16, 3, 0, 0, .null, [], [])), (16, (.iload_n 1, 17, 1, 0, 0, .null, [], [])), (17, (.invokestatic 121, 20, 133, 2, 0, .null, [], [])), (20, (.iaload, 21, 0, 0, 0, .null, [], [])), (21, (.bipush (-4), 23, 0, 0, 0, .int (-4), [], [])), (23, (.if_icmp .eq 7, 26, 30, 0, 0, .null, [], []))]),
  (39, [(26, (.iconst 1, 27, 0, 0, 0, .int 1, [], [])), (27, (.goto 4, 30, 31, 0, 0, .null, [], [])), (30, (.iconst 0, 31, 0, 0, 0, .int 0, [], [])), (31, (.invokestatic 149, 34, 131, 1, 0, .null, [], [])), (34, (.iadd, 35, 0, 0, 0, .null, [], [])), (35, (.istore_n 2, 36, 2, 0, 0, .null, [], [])), (36, (.iinc 3 1, 39, 3, 0, 0, .int 1, [], [])), (39, (.goto (-35), 42, 4, 0, 0, .null, [], []))]),
  (43, [(42, (.iload_n 2, 43, 2, 0, 0, .null, [], [])), (43, (.ireturn, 44, 0, 0, 0, .null, [], []))])]
def zc_Mo_stampsOf : zCd := zFd zl_Mo_stampsOf
def zl_Mo_stamps : List (Nat × List (Nat × zEnt)) := [(9, [(0, (.iconst 0, 1, 0, 0, 0, .int 0, [], [])), (1, (.istore_n 1, 2, 1, 0, 0, .null, [], [])), (2, (.iconst 0, 3, 0, 0, 0, .int 0, [], [])), (3, (.istore_n 2, 4, 2, 0, 0, .null, [], [])), (4, (.iload_n 2, 5, 2, 0, 0, .null, [], [])), (5, (.aload_n 0, 6, 0, 0, 0, .null, [], [])), (6, (.getfield 7, 9, 10, 0, 2, .null, [], [])), (9, (.iconst 0, 10, 0, 0, 0, .int 0, [], []))]),
  (21, [(10, (.iaload, 11, 0, 0, 0, .null, [], [])), (11, (.if_icmp .ge 17, 14, 28, 0, 0, .null, [], [])), (14, (.iload_n 1, 15, 1, 0, 0, .null, [], [])), (15, (.aload_n 0, 16, 0, 0, 0, .null, [], [])), (16, (.iload_n 2, 17, 2, 0, 0, .null, [], [])), (17, (.invokevirtual 153, 20, 150, 2, 0, .ref 10, [], [])), (20, (.iadd, 21, 0, 0, 0, .null, [], [])), (21, (.istore_n 1, 22, 1, 0, 0, .null, [], []))]),
  (29, [(22, (.iinc 2 1, 25, 2, 0, 0, .int 1, [], [])), (25, (.goto (-21), 28, 4, 0, 0, .null, [], [])), (28, (.iload_n 1, 29, 1, 0, 0, .null, [], [])), (29, (.ireturn, 30, 0, 0, 0, .null, [], []))])]
def zc_Mo_stamps : zCd := zFd zl_Mo_stamps
def zl_Mo_unheard : List (Nat × List (Nat × zEnt)) := [(10, [(0, (.iconst 0, 1, 0, 0, 0, .int 0, [], [])), (1, (.istore_n 1, 2, 1, 0, 0, .null, [], [])), (2, (.iconst 0, 3, 0, 0, 0, .int 0, [], [])), (3, (.istore_n 2, 4, 2, 0, 0, .null, [], [])), (4, (.iload_n 2, 5, 2, 0, 0, .null, [3, 4], [])), (5, (.bipush 16, 7, 0, 0, 0, .int 16, [], [])), (7, (.if_icmp .ge 72, 10, 79, 0, 0, .null, [], [])), (10, (.iconst 0, 11, 0, 0, 0, .int 0, [], []))]),
  (22, [(11, (.istore_n 3, 12, 3, 0, 0, .null, [], [])), (12, (.iconst 0, 13, 0, 0, 0, .int 0, [], [])), (13, (.istore 4, 15, 4, 0, 0, .null, [], [])), (15, (.iload 4, 17, 4, 0, 0, .null, [], [])), (17, (.aload_n 0, 18, 0, 0, 0, .null, [], [])), (18, (.getfield 7, 21, 10, 0, 2, .null, [], [])), (21, (.iconst 0, 22, 0, 0, 0, .int 0, [], [])), (22, (.iaload, 23, 0, 0, 0, .null, [], []))]),
  (37, [(23, (.if_icmp .ge 35, 26, 58, 0, 0, .null, [], [])), (26, (.iload_n 3, 27, 3, 0, 0, .null, [], [])), (27, (.ifCond .ne 19, 30, 46, 0, 0, .null, [], [])), (30, (.aload_n 0, 31, 0, 0, 0, .null, [], [])), (31, (.getfield 7, 34, 10, 0, 2, .null, [], [])), (34, (.iload_n 2, 35, 2, 0, 0, .null, [], [])), (35, (.iload 4, 37, 4, 0, 0, .null, [], [])), (37, (.invokestatic 121, 40, 133, 2, 0, .null, [], []))]),
  (52, [(40, (.iaload, 41, 0, 0, 0, .null, [], [])), (41, (.bipush (-4), 43, 0, 0, 0, .int (-4), [], [])), (43, (.if_icmp .eq 7, 46, 50, 0, 0, .null, [], [])), (46, (.iconst 1, 47, 0, 0, 0, .int 1, [], [])), (47, (.goto 4, 50, 51, 0, 0, .null, [], [])), (50, (.iconst 0, 51, 0, 0, 0, .int 0, [], [])), (51, (.istore_n 3, 52, 3, 0, 0, .null, [], [])), (52, (.iinc 4 1, 55, 4, 0, 0, .int 1, [], []))]),
  (68, [(55, (.goto (-40), 58, 15, 0, 0, .null, [], [])), (58, (.iload_n 1, 59, 1, 0, 0, .null, [], [])), (59, (.iload_n 3, 60, 3, 0, 0, .null, [], [])), (60, (.ifCond .ne 7, 63, 67, 0, 0, .null, [], [])), (63, (.iconst 1, 64, 0, 0, 0, .int 1, [], [])), (64, (.goto 4, 67, 68, 0, 0, .null, [], [])), (67, (.iconst 0, 68, 0, 0, 0, .int 0, [], [])), (68, (.invokestatic 149, 71, 131, 1, 0, .null, [], []))]),
  (80, [(71, (.iadd, 72, 0, 0, 0, .null, [], [])), (72, (.istore_n 1, 73, 1, 0, 0, .null, [], [])), (73, (.iinc 2 1, 76, 2, 0, 0, .int 1, [], [])), (76, (.goto (-72), 79, 4, 0, 0, .null, [], [])), (79, (.iload_n 1, 80, 1, 0, 0, .null, [], [])), (80, (.ireturn, 81, 0, 0, 0, .null, [], []))])]
def zc_Mo_unheard : zCd := zFd zl_Mo_unheard
def zl_Mo_rule : List (Nat × List (Nat × zEnt)) := [(59, [(0, (.iload_n 1, 1, 1, 0, 0, .null, [], [])), (1, (.tableswitch 93 0 8 #[51, 58, 63, 70, 77, 77, 83, 77, 88], 52, 94, 0, 0, .null, [], [52, 59, 64, 71, 78, 78, 84, 78, 89])), (52, (.aload_n 0, 53, 0, 0, 0, .null, [], [])), (53, (.getfield 7, 56, 10, 0, 2, .null, [], [])), (56, (.iconst 0, 57, 0, 0, 0, .int 0, [], [])), (57, (.iaload, 58, 0, 0, 0, .null, [], [])), (58, (.ireturn, 59, 0, 0, 0, .null, [], [])), (59, (.aload_n 0, 60, 0, 0, 0, .null, [], []))]),
  (71, [(60, (.invokevirtual 144, 63, 151, 1, 0, .ref 10, [], [])), (63, (.ireturn, 64, 0, 0, 0, .null, [], [])), (64, (.aload_n 0, 65, 0, 0, 0, .null, [], [])), (65, (.getfield 7, 68, 10, 0, 2, .null, [], [])), (68, (.iconst 1, 69, 0, 0, 0, .int 1, [], [])), (69, (.iaload, 70, 0, 0, 0, .null, [], [])), (70, (.ireturn, 71, 0, 0, 0, .null, [], [])), (71, (.aload_n 0, 72, 0, 0, 0, .null, [], []))]),
  (83, [(72, (.getfield 7, 75, 10, 0, 2, .null, [], [])), (75, (.iconst 2, 76, 0, 0, 0, .int 2, [], [])), (76, (.iaload, 77, 0, 0, 0, .null, [], [])), (77, (.ireturn, 78, 0, 0, 0, .null, [], [])), (78, (.aload_n 0, 79, 0, 0, 0, .null, [], [])), (79, (.iload_n 1, 80, 1, 0, 0, .null, [], [])), (80, (.invokevirtual 156, 83, 173, 2, 0, .ref 10, [], [])), (83, (.ireturn, 84, 0, 0, 0, .null, [], []))]),
  (95, [(84, (.aload_n 0, 85, 0, 0, 0, .null, [], [])), (85, (.invokevirtual 159, 88, 172, 1, 0, .ref 10, [], [])), (88, (.ireturn, 89, 0, 0, 0, .null, [], [])), (89, (.aload_n 0, 90, 0, 0, 0, .null, [], [])), (90, (.invokevirtual 162, 93, 152, 1, 0, .ref 10, [], [])), (93, (.ireturn, 94, 0, 0, 0, .null, [], [])), (94, (.iconst (-1), 95, 0, 0, 0, .int (-1), [], [])), (95, (.ireturn, 96, 0, 0, 0, .null, [], []))])]
def zc_Mo_rule : zCd := zFd zl_Mo_rule
def zl_Mo_stamp : List (Nat × List (Nat × zEnt)) := [(15, [(0, (.iload_n 1, 1, 1, 0, 0, .null, [], [])), (1, (.invokestatic 165, 4, 149, 1, 0, .null, [], [])), (4, (.ifCond .eq 24, 7, 28, 0, 0, .null, [], [])), (7, (.aload_n 0, 8, 0, 0, 0, .null, [], [])), (8, (.iload_n 2, 9, 2, 0, 0, .null, [], [])), (9, (.invokevirtual 169, 12, 148, 2, 0, .ref 10, [], [])), (12, (.ifCond .eq 16, 15, 28, 0, 0, .null, [], [])), (15, (.aload_n 0, 16, 0, 0, 0, .null, [], []))]),
  (29, [(16, (.getfield 7, 19, 10, 0, 2, .null, [], [])), (19, (.iload_n 1, 20, 1, 0, 0, .null, [], [])), (20, (.iload_n 2, 21, 2, 0, 0, .null, [], [])), (21, (.invokestatic 121, 24, 133, 2, 0, .null, [], [])), (24, (.iaload, 25, 0, 0, 0, .null, [], [])), (25, (.goto 4, 28, 29, 0, 0, .null, [], [])), (28, (.iconst (-1), 29, 0, 0, 0, .int (-1), [], [])), (29, (.ireturn, 30, 0, 0, 0, .null, [], []))])]
def zc_Mo_stamp : zCd := zFd zl_Mo_stamp
def zl_Mo_sums : List (Nat × List (Nat × zEnt)) := [(15, [(0, (.aload_n 0, 1, 0, 0, 0, .null, [], [])), (1, (.lconst 0, 2, 0, 0, 0, .long 0, [], [])), (2, (.putfield 172, 5, 10, 15, 1, .null, [], [])), (5, (.aload_n 0, 6, 0, 0, 0, .null, [], [])), (6, (.lconst 0, 7, 0, 0, 0, .long 0, [], [])), (7, (.putfield 176, 10, 10, 16, 1, .null, [], [])), (10, (.aload_n 0, 11, 0, 0, 0, .null, [], [])), (11, (.lconst 0, 12, 0, 0, 0, .long 0, [], [])), (12, (.putfield 179, 15, 10, 17, 1, .null, [], [])), (15, (.lconst 0, 16, 0, 0, 0, .long 0, [], []))]),
  (31, [(16, (.lstore_n 3, 17, 3, 0, 0, .null, [], [])), (17, (.lconst 0, 18, 0, 0, 0, .long 0, [], [])), (18, (.lstore 5, 20, 5, 0, 0, .null, [], [])), (20, (.iconst 0, 21, 0, 0, 0, .int 0, [], [])), (21, (.istore 7, 23, 7, 0, 0, .null, [], [])), (23, (.iload 7, 25, 7, 0, 0, .null, [4, 6, 8, 9, 10, 11], [])), (25, (.bipush 16, 27, 0, 0, 0, .int 16, [], [])), (27, (.if_icmp .ge 107, 30, 134, 0, 0, .null, [], [])), (30, (.aload_n 0, 31, 0, 0, 0, .null, [], [])), (31, (.getfield 26, 34, 10, 22, 2, .null, [], []))]),
  (51, [(34, (.iload 7, 36, 7, 0, 0, .null, [], [])), (36, (.baload, 37, 1, 0, 0, .null, [], [])), (37, (.ifCond .eq 91, 40, 128, 0, 0, .null, [], [])), (40, (.aload_n 0, 41, 0, 0, 0, .null, [], [])), (41, (.getfield 29, 44, 10, 23, 2, .null, [], [])), (44, (.iload 7, 46, 7, 0, 0, .null, [], [])), (46, (.iaload, 47, 0, 0, 0, .null, [], [])), (47, (.ifCond .ne 81, 50, 128, 0, 0, .null, [], [])), (50, (.aload_n 0, 51, 0, 0, 0, .null, [], [])), (51, (.getfield 7, 54, 10, 0, 2, .null, [], []))]),
  (70, [(54, (.iload 7, 56, 7, 0, 0, .null, [], [])), (56, (.iload_n 1, 57, 1, 0, 0, .null, [], [])), (57, (.invokestatic 121, 60, 133, 2, 0, .null, [], [])), (60, (.iaload, 61, 0, 0, 0, .null, [], [])), (61, (.i2l, 62, 0, 0, 0, .null, [], [])), (62, (.lstore 8, 64, 8, 0, 0, .null, [], [])), (64, (.aload_n 0, 65, 0, 0, 0, .null, [4, 6, 9, 10, 11], [])), (65, (.getfield 7, 68, 10, 0, 2, .null, [], [])), (68, (.iload 7, 70, 7, 0, 0, .null, [], [])), (70, (.iload_n 2, 71, 2, 0, 0, .null, [], []))]),
  (85, [(71, (.invokestatic 121, 74, 133, 2, 0, .null, [], [])), (74, (.iaload, 75, 0, 0, 0, .null, [], [])), (75, (.i2l, 76, 0, 0, 0, .null, [], [])), (76, (.lstore 10, 78, 10, 0, 0, .null, [], [])), (78, (.aload_n 0, 79, 0, 0, 0, .null, [], [])), (79, (.dup, 80, 0, 0, 0, .null, [], [])), (80, (.getfield 172, 83, 10, 15, 1, .null, [], [])), (83, (.lconst 1, 84, 0, 0, 0, .long 1, [], [])), (84, (.ladd, 85, 0, 0, 0, .null, [], [])), (85, (.putfield 172, 88, 10, 15, 1, .null, [], []))]),
  (104, [(88, (.aload_n 0, 89, 0, 0, 0, .null, [], [])), (89, (.dup, 90, 0, 0, 0, .null, [], [])), (90, (.getfield 176, 93, 10, 16, 1, .null, [], [])), (93, (.lload 8, 95, 8, 0, 0, .null, [], [])), (95, (.ladd, 96, 0, 0, 0, .null, [], [])), (96, (.putfield 176, 99, 10, 16, 1, .null, [], [])), (99, (.aload_n 0, 100, 0, 0, 0, .null, [], [])), (100, (.dup, 101, 0, 0, 0, .null, [], [])), (101, (.getfield 179, 104, 10, 17, 1, .null, [], [])), (104, (.lload 10, 106, 10, 0, 0, .null, [], []))]),
  (120, [(106, (.ladd, 107, 0, 0, 0, .null, [], [])), (107, (.putfield 179, 110, 10, 17, 1, .null, [], [])), (110, (.lload_n 3, 111, 3, 0, 0, .null, [], [])), (111, (.lload 8, 113, 8, 0, 0, .null, [], [])), (113, (.lload 8, 115, 8, 0, 0, .null, [], [])), (115, (.lmul, 116, 0, 0, 0, .null, [], [])), (116, (.ladd, 117, 0, 0, 0, .null, [], [])), (117, (.lstore_n 3, 118, 3, 0, 0, .null, [], [])), (118, (.lload 5, 120, 5, 0, 0, .null, [], [])), (120, (.lload 8, 122, 8, 0, 0, .null, [], []))]),
  (139, [(122, (.lload 10, 124, 10, 0, 0, .null, [], [])), (124, (.lmul, 125, 0, 0, 0, .null, [], [])), (125, (.ladd, 126, 0, 0, 0, .null, [], [])), (126, (.lstore 5, 128, 5, 0, 0, .null, [], [])), (128, (.iinc 7 1, 131, 7, 0, 0, .int 1, [], [])), (131, (.goto (-108), 134, 23, 0, 0, .null, [], [])), (134, (.aload_n 0, 135, 0, 0, 0, .null, [], [])), (135, (.aload_n 0, 136, 0, 0, 0, .null, [], [])), (136, (.getfield 172, 139, 10, 15, 1, .null, [], [])), (139, (.lload_n 3, 140, 3, 0, 0, .null, [], []))]),
  (155, [(140, (.lmul, 141, 0, 0, 0, .null, [], [])), (141, (.aload_n 0, 142, 0, 0, 0, .null, [], [])), (142, (.getfield 176, 145, 10, 16, 1, .null, [], [])), (145, (.aload_n 0, 146, 0, 0, 0, .null, [], [])), (146, (.getfield 176, 149, 10, 16, 1, .null, [], [])), (149, (.lmul, 150, 0, 0, 0, .null, [], [])), (150, (.lsub, 151, 0, 0, 0, .null, [], [])), (151, (.putfield 182, 154, 10, 18, 1, .null, [], [])), (154, (.aload_n 0, 155, 0, 0, 0, .null, [], [])), (155, (.aload_n 0, 156, 0, 0, 0, .null, [], []))]),
  (172, [(156, (.getfield 172, 159, 10, 15, 1, .null, [], [])), (159, (.lload 5, 161, 5, 0, 0, .null, [], [])), (161, (.lmul, 162, 0, 0, 0, .null, [], [])), (162, (.aload_n 0, 163, 0, 0, 0, .null, [], [])), (163, (.getfield 176, 166, 10, 16, 1, .null, [], [])), (166, (.aload_n 0, 167, 0, 0, 0, .null, [], [])), (167, (.getfield 179, 170, 10, 17, 1, .null, [], [])), (170, (.lmul, 171, 0, 0, 0, .null, [], [])), (171, (.lsub, 172, 0, 0, 0, .null, [], [])), (172, (.putfield 185, 175, 10, 19, 1, .null, [], []))]),
  (175, [(175, (.return_, 176, 0, 0, 0, .null, [], []))])]
def zc_Mo_sums : zCd := zFd zl_Mo_sums
def zl_Mo_den : List (Nat × List (Nat × zEnt)) := [(9, [(0, (.aload_n 0, 1, 0, 0, 0, .null, [], [])), (1, (.getfield 172, 4, 10, 15, 1, .null, [], [])), (4, (.aload_n 0, 5, 0, 0, 0, .null, [], [])), (5, (.getfield 182, 8, 10, 18, 1, .null, [], [])), (8, (.lmul, 9, 0, 0, 0, .null, [], [])), (9, (.lreturn, 10, 0, 0, 0, .null, [], []))])]
def zc_Mo_den : zCd := zFd zl_Mo_den
def zl_Mo_farOf : List (Nat × List (Nat × zEnt)) := [(11, [(0, (.aload_n 0, 1, 0, 0, 0, .null, [], [])), (1, (.getfield 7, 4, 10, 0, 2, .null, [], [])), (4, (.iload_n 1, 5, 1, 0, 0, .null, [], [])), (5, (.iload_n 3, 6, 3, 0, 0, .null, [], [])), (6, (.invokestatic 121, 9, 133, 2, 0, .null, [], [])), (9, (.iaload, 10, 0, 0, 0, .null, [], [])), (10, (.i2l, 11, 0, 0, 0, .null, [], [])), (11, (.aload_n 0, 12, 0, 0, 0, .null, [], []))]),
  (25, [(12, (.getfield 172, 15, 10, 15, 1, .null, [], [])), (15, (.lmul, 16, 0, 0, 0, .null, [], [])), (16, (.aload_n 0, 17, 0, 0, 0, .null, [], [])), (17, (.getfield 182, 20, 10, 18, 1, .null, [], [])), (20, (.lmul, 21, 0, 0, 0, .null, [], [])), (21, (.aload_n 0, 22, 0, 0, 0, .null, [], [])), (22, (.getfield 179, 25, 10, 17, 1, .null, [], [])), (25, (.aload_n 0, 26, 0, 0, 0, .null, [], []))]),
  (39, [(26, (.getfield 182, 29, 10, 18, 1, .null, [], [])), (29, (.lmul, 30, 0, 0, 0, .null, [], [])), (30, (.lsub, 31, 0, 0, 0, .null, [], [])), (31, (.aload_n 0, 32, 0, 0, 0, .null, [], [])), (32, (.getfield 185, 35, 10, 19, 1, .null, [], [])), (35, (.aload_n 0, 36, 0, 0, 0, .null, [], [])), (36, (.getfield 172, 39, 10, 15, 1, .null, [], [])), (39, (.aload_n 0, 40, 0, 0, 0, .null, [], []))]),
  (51, [(40, (.getfield 7, 43, 10, 0, 2, .null, [], [])), (43, (.iload_n 1, 44, 1, 0, 0, .null, [], [])), (44, (.iload_n 2, 45, 2, 0, 0, .null, [], [])), (45, (.invokestatic 121, 48, 133, 2, 0, .null, [], [])), (48, (.iaload, 49, 0, 0, 0, .null, [], [])), (49, (.i2l, 50, 0, 0, 0, .null, [], [])), (50, (.lmul, 51, 0, 0, 0, .null, [], [])), (51, (.aload_n 0, 52, 0, 0, 0, .null, [], []))]),
  (63, [(52, (.getfield 176, 55, 10, 16, 1, .null, [], [])), (55, (.lsub, 56, 0, 0, 0, .null, [], [])), (56, (.lmul, 57, 0, 0, 0, .null, [], [])), (57, (.lsub, 58, 0, 0, 0, .null, [], [])), (58, (.lstore 4, 60, 4, 0, 0, .null, [], [])), (60, (.lload 4, 62, 4, 0, 0, .null, [], [])), (62, (.lconst 0, 63, 0, 0, 0, .long 0, [], [])), (63, (.lcmp, 64, 0, 0, 0, .null, [], []))]),
  (75, [(64, (.ifCond .ge 9, 67, 73, 0, 0, .null, [], [])), (67, (.lload 4, 69, 4, 0, 0, .null, [], [])), (69, (.lneg, 70, 0, 0, 0, .null, [], [])), (70, (.goto 5, 73, 75, 0, 0, .null, [], [])), (73, (.lload 4, 75, 4, 0, 0, .null, [], [])), (75, (.lreturn, 76, 0, 0, 0, .null, [], []))])]
def zc_Mo_farOf : zCd := zFd zl_Mo_farOf
def zl_Mo_findsFarthest : List (Nat × List (Nat × zEnt)) := [(14, [(0, (.aload_n 0, 1, 0, 0, 0, .null, [], [])), (1, (.bipush (-4), 3, 0, 0, 0, .int (-4), [], [])), (3, (.putfield 188, 6, 10, 20, 0, .null, [], [])), (6, (.aload_n 0, 7, 0, 0, 0, .null, [], [])), (7, (.ldc2_w 191, 10, 0, 0, 0, .long (-1), [], [])), (10, (.putfield 193, 13, 10, 21, 1, .null, [], [])), (13, (.iconst 0, 14, 0, 0, 0, .int 0, [], [])), (14, (.istore_n 3, 15, 3, 0, 0, .null, [], []))]),
  (27, [(15, (.iload_n 3, 16, 3, 0, 0, .null, [], [])), (16, (.bipush 16, 18, 0, 0, 0, .int 16, [], [])), (18, (.if_icmp .ge 58, 21, 76, 0, 0, .null, [], [])), (21, (.aload_n 0, 22, 0, 0, 0, .null, [], [])), (22, (.getfield 26, 25, 10, 22, 2, .null, [], [])), (25, (.iload_n 3, 26, 3, 0, 0, .null, [], [])), (26, (.baload, 27, 1, 0, 0, .null, [], [])), (27, (.ifCond .eq 43, 30, 70, 0, 0, .null, [], []))]),
  (41, [(30, (.aload_n 0, 31, 0, 0, 0, .null, [], [])), (31, (.getfield 29, 34, 10, 23, 2, .null, [], [])), (34, (.iload_n 3, 35, 3, 0, 0, .null, [], [])), (35, (.iaload, 36, 0, 0, 0, .null, [], [])), (36, (.ifCond .ne 34, 39, 70, 0, 0, .null, [], [])), (39, (.aload_n 0, 40, 0, 0, 0, .null, [], [])), (40, (.iload_n 3, 41, 3, 0, 0, .null, [], [])), (41, (.iload_n 1, 42, 1, 0, 0, .null, [], []))]),
  (55, [(42, (.iload_n 2, 43, 2, 0, 0, .null, [], [])), (43, (.invokevirtual 196, 46, 157, 4, 1, .ref 10, [], [])), (46, (.aload_n 0, 47, 0, 0, 0, .null, [], [])), (47, (.getfield 193, 50, 10, 21, 1, .null, [], [])), (50, (.lcmp, 51, 0, 0, 0, .null, [], [])), (51, (.ifCond .le 19, 54, 70, 0, 0, .null, [], [])), (54, (.aload_n 0, 55, 0, 0, 0, .null, [], [])), (55, (.iload_n 3, 56, 3, 0, 0, .null, [], []))]),
  (67, [(56, (.putfield 188, 59, 10, 20, 0, .null, [], [])), (59, (.aload_n 0, 60, 0, 0, 0, .null, [], [])), (60, (.aload_n 0, 61, 0, 0, 0, .null, [], [])), (61, (.iload_n 3, 62, 3, 0, 0, .null, [], [])), (62, (.iload_n 1, 63, 1, 0, 0, .null, [], [])), (63, (.iload_n 2, 64, 2, 0, 0, .null, [], [])), (64, (.invokevirtual 196, 67, 157, 4, 1, .ref 10, [], [])), (67, (.putfield 193, 70, 10, 21, 1, .null, [], []))]),
  (76, [(70, (.iinc 3 1, 73, 3, 0, 0, .int 1, [], [])), (73, (.goto (-58), 76, 15, 0, 0, .null, [], [])), (76, (.return_, 77, 0, 0, 0, .null, [], []))])]
def zc_Mo_findsFarthest : zCd := zFd zl_Mo_findsFarthest
def zl_Mo_fits : List (Nat × List (Nat × zEnt)) := [(14, [(0, (.aload_n 0, 1, 0, 0, 0, .null, [], [])), (1, (.iconst 0, 2, 0, 0, 0, .int 0, [], [])), (2, (.putfield 200, 5, 10, 24, 0, .null, [], [])), (5, (.iconst 0, 6, 0, 0, 0, .int 0, [], [])), (6, (.istore_n 3, 7, 3, 0, 0, .null, [], [])), (7, (.iload_n 3, 8, 3, 0, 0, .null, [], [])), (8, (.bipush 16, 10, 0, 0, 0, .int 16, [], [])), (10, (.if_icmp .ge 57, 13, 67, 0, 0, .null, [], [])), (13, (.aload_n 0, 14, 0, 0, 0, .null, [], [])), (14, (.getfield 26, 17, 10, 22, 2, .null, [], []))]),
  (33, [(17, (.iload_n 3, 18, 3, 0, 0, .null, [], [])), (18, (.aload_n 0, 19, 0, 0, 0, .null, [], [])), (19, (.getfield 7, 22, 10, 0, 2, .null, [], [])), (22, (.iload_n 3, 23, 3, 0, 0, .null, [], [])), (23, (.iload_n 1, 24, 1, 0, 0, .null, [], [])), (24, (.invokestatic 121, 27, 133, 2, 0, .null, [], [])), (27, (.iaload, 28, 0, 0, 0, .null, [], [])), (28, (.bipush (-4), 30, 0, 0, 0, .int (-4), [], [])), (30, (.if_icmp .eq 22, 33, 52, 0, 0, .null, [], [])), (33, (.aload_n 0, 34, 0, 0, 0, .null, [], []))]),
  (52, [(34, (.getfield 7, 37, 10, 0, 2, .null, [], [])), (37, (.iload_n 3, 38, 3, 0, 0, .null, [], [])), (38, (.iload_n 2, 39, 2, 0, 0, .null, [], [])), (39, (.invokestatic 121, 42, 133, 2, 0, .null, [], [])), (42, (.iaload, 43, 0, 0, 0, .null, [], [])), (43, (.bipush (-4), 45, 0, 0, 0, .int (-4), [], [])), (45, (.if_icmp .eq 7, 48, 52, 0, 0, .null, [], [])), (48, (.iconst 1, 49, 0, 0, 0, .int 1, [], [])), (49, (.goto 4, 52, 53, 0, 0, .null, [], [])), (52, (.iconst 0, 53, 0, 0, 0, .int 0, [], []))]),
  (68, [(53, (.bastore, 54, 1, 0, 0, .null, [], [])), (54, (.aload_n 0, 55, 0, 0, 0, .null, [], [])), (55, (.getfield 29, 58, 10, 23, 2, .null, [], [])), (58, (.iload_n 3, 59, 3, 0, 0, .null, [], [])), (59, (.iconst 0, 60, 0, 0, 0, .int 0, [], [])), (60, (.iastore, 61, 0, 0, 0, .null, [], [])), (61, (.iinc 3 1, 64, 3, 0, 0, .int 1, [], [])), (64, (.goto (-57), 67, 7, 0, 0, .null, [], [])), (67, (.aload_n 0, 68, 0, 0, 0, .null, [], [])), (68, (.bipush (-4), 70, 0, 0, 0, .int (-4), [], []))]),
  (88, [(70, (.putfield 203, 73, 10, 14, 0, .null, [], [])), (73, (.aload_n 0, 74, 0, 0, 0, .null, [3], [])), (74, (.getfield 203, 77, 10, 14, 0, .null, [], [])), (77, (.bipush (-4), 79, 0, 0, 0, .int (-4), [], [])), (79, (.if_icmp .ne 124, 82, 203, 0, 0, .null, [], [])), (82, (.aload_n 0, 83, 0, 0, 0, .null, [], [])), (83, (.iload_n 1, 84, 1, 0, 0, .null, [], [])), (84, (.iload_n 2, 85, 2, 0, 0, .null, [], [])), (85, (.invokevirtual 206, 88, 155, 3, 9, .ref 10, [], [])), (88, (.aload_n 0, 89, 0, 0, 0, .null, [], []))]),
  (104, [(89, (.getfield 172, 92, 10, 15, 1, .null, [], [])), (92, (.aload_n 0, 93, 0, 0, 0, .null, [], [])), (93, (.getfield 7, 96, 10, 0, 2, .null, [], [])), (96, (.iconst 2, 97, 0, 0, 0, .int 2, [], [])), (97, (.iaload, 98, 0, 0, 0, .null, [], [])), (98, (.i2l, 99, 0, 0, 0, .null, [], [])), (99, (.lcmp, 100, 0, 0, 0, .null, [], [])), (100, (.ifCond .lt 12, 103, 112, 0, 0, .null, [], [])), (103, (.aload_n 0, 104, 0, 0, 0, .null, [], [])), (104, (.getfield 182, 107, 10, 18, 1, .null, [], []))]),
  (122, [(107, (.lconst 0, 108, 0, 0, 0, .long 0, [], [])), (108, (.lcmp, 109, 0, 0, 0, .null, [], [])), (109, (.ifCond .ne 11, 112, 120, 0, 0, .null, [], [])), (112, (.aload_n 0, 113, 0, 0, 0, .null, [], [])), (113, (.iconst 0, 114, 0, 0, 0, .int 0, [], [])), (114, (.putfield 203, 117, 10, 14, 0, .null, [], [])), (117, (.goto (-44), 120, 73, 0, 0, .null, [], [])), (120, (.aload_n 0, 121, 0, 0, 0, .null, [], [])), (121, (.iload_n 1, 122, 1, 0, 0, .null, [], [])), (122, (.iload_n 2, 123, 2, 0, 0, .null, [], []))]),
  (138, [(123, (.invokevirtual 210, 126, 158, 3, 9, .ref 10, [], [])), (126, (.aload_n 0, 127, 0, 0, 0, .null, [3], [])), (127, (.getfield 193, 130, 10, 21, 1, .null, [], [])), (130, (.aload_n 0, 131, 0, 0, 0, .null, [], [])), (131, (.getfield 7, 134, 10, 0, 2, .null, [], [])), (134, (.iconst 1, 135, 0, 0, 0, .int 1, [], [])), (135, (.iaload, 136, 0, 0, 0, .null, [], [])), (136, (.i2l, 137, 0, 0, 0, .null, [], [])), (137, (.aload_n 0, 138, 0, 0, 0, .null, [], [])), (138, (.invokevirtual 213, 141, 156, 1, 1, .ref 10, [], []))]),
  (158, [(141, (.lmul, 142, 0, 0, 0, .null, [], [])), (142, (.lcmp, 143, 0, 0, 0, .null, [], [])), (143, (.ifCond .gt 11, 146, 154, 0, 0, .null, [], [])), (146, (.aload_n 0, 147, 0, 0, 0, .null, [], [])), (147, (.iconst 2, 148, 0, 0, 0, .int 2, [], [])), (148, (.putfield 203, 151, 10, 14, 0, .null, [], [])), (151, (.goto (-78), 154, 73, 0, 0, .null, [], [])), (154, (.aload_n 0, 155, 0, 0, 0, .null, [], [])), (155, (.getfield 172, 158, 10, 15, 1, .null, [], [])), (158, (.aload_n 0, 159, 0, 0, 0, .null, [], []))]),
  (174, [(159, (.getfield 7, 162, 10, 0, 2, .null, [], [])), (162, (.iconst 2, 163, 0, 0, 0, .int 2, [], [])), (163, (.iaload, 164, 0, 0, 0, .null, [], [])), (164, (.i2l, 165, 0, 0, 0, .null, [], [])), (165, (.lcmp, 166, 0, 0, 0, .null, [], [])), (166, (.ifCond .ne 11, 169, 177, 0, 0, .null, [], [])), (169, (.aload_n 0, 170, 0, 0, 0, .null, [], [])), (170, (.iconst 1, 171, 0, 0, 0, .int 1, [], [])), (171, (.putfield 203, 174, 10, 14, 0, .null, [], [])), (174, (.goto (-101), 177, 73, 0, 0, .null, [], []))]),
  (192, [(177, (.aload_n 0, 178, 0, 0, 0, .null, [], [])), (178, (.dup, 179, 0, 0, 0, .null, [], [])), (179, (.getfield 200, 182, 10, 24, 0, .null, [], [])), (182, (.iconst 1, 183, 0, 0, 0, .int 1, [], [])), (183, (.iadd, 184, 0, 0, 0, .null, [], [])), (184, (.putfield 200, 187, 10, 24, 0, .null, [], [])), (187, (.aload_n 0, 188, 0, 0, 0, .null, [], [])), (188, (.getfield 29, 191, 10, 23, 2, .null, [], [])), (191, (.aload_n 0, 192, 0, 0, 0, .null, [], [])), (192, (.getfield 188, 195, 10, 20, 0, .null, [], []))]),
  (203, [(195, (.aload_n 0, 196, 0, 0, 0, .null, [], [])), (196, (.getfield 200, 199, 10, 24, 0, .null, [], [])), (199, (.iastore, 200, 0, 0, 0, .null, [], [])), (200, (.goto (-127), 203, 73, 0, 0, .null, [], [])), (203, (.return_, 204, 0, 0, 0, .null, [], []))])]
def zc_Mo_fits : zCd := zFd zl_Mo_fits
def zl_Mo_upBy : List (Nat × List (Nat × zEnt)) := [(7, [(0, (.lload_n 0, 1, 0, 0, 0, .null, [], [])), (1, (.lload_n 2, 2, 2, 0, 0, .null, [], [])), (2, (.ladd, 3, 0, 0, 0, .null, [], [])), (3, (.lconst 1, 4, 0, 0, 0, .long 1, [], [])), (4, (.lsub, 5, 0, 0, 0, .null, [], [])), (5, (.lload_n 2, 6, 2, 0, 0, .null, [], [])), (6, (.ldiv, 7, 0, 0, 0, .null, [], [])), (7, (.lreturn, 8, 0, 0, 0, .null, [], []))])]
def zc_Mo_upBy : zCd := zFd zl_Mo_upBy
def zl_Mo_costOfLine : List (Nat × List (Nat × zEnt)) := [(15, [(0, (.aload_n 0, 1, 0, 0, 0, .null, [], [])), (1, (.getfield 203, 4, 10, 14, 0, .null, [], [])), (4, (.iconst 2, 5, 0, 0, 0, .int 2, [], [])), (5, (.if_icmp .ne 24, 8, 29, 0, 0, .null, [], [])), (8, (.ldc2_w 217, 11, 0, 0, 0, .long 256, [], [])), (11, (.aload_n 0, 12, 0, 0, 0, .null, [], [])), (12, (.getfield 193, 15, 10, 21, 1, .null, [], [])), (15, (.lmul, 16, 0, 0, 0, .null, [], []))]),
  (29, [(16, (.aload_n 0, 17, 0, 0, 0, .null, [], [])), (17, (.invokevirtual 213, 20, 156, 1, 1, .ref 10, [], [])), (20, (.invokestatic 219, 23, 160, 2, 1, .null, [], [])), (23, (.l2i, 24, 0, 0, 0, .null, [], [])), (24, (.iconst 1, 25, 0, 0, 0, .int 1, [], [])), (25, (.iadd, 26, 0, 0, 0, .null, [], [])), (26, (.goto 5, 29, 31, 0, 0, .null, [], [])), (29, (.bipush (-4), 31, 0, 0, 0, .int (-4), [], []))]),
  (31, [(31, (.ireturn, 32, 0, 0, 0, .null, [], []))])]
def zc_Mo_costOfLine : zCd := zFd zl_Mo_costOfLine
def zl_Mo_areTwo : List (Nat × List (Nat × zEnt)) := [(13, [(0, (.aload_n 0, 1, 0, 0, 0, .null, [], [])), (1, (.iload_n 1, 2, 1, 0, 0, .null, [], [])), (2, (.invokevirtual 169, 5, 148, 2, 0, .ref 10, [], [])), (5, (.ifCond .eq 20, 8, 25, 0, 0, .null, [], [])), (8, (.aload_n 0, 9, 0, 0, 0, .null, [], [])), (9, (.iload_n 2, 10, 2, 0, 0, .null, [], [])), (10, (.invokevirtual 169, 13, 148, 2, 0, .ref 10, [], [])), (13, (.ifCond .eq 12, 16, 25, 0, 0, .null, [], []))]),
  (26, [(16, (.iload_n 1, 17, 1, 0, 0, .null, [], [])), (17, (.iload_n 2, 18, 2, 0, 0, .null, [], [])), (18, (.if_icmp .eq 7, 21, 25, 0, 0, .null, [], [])), (21, (.iconst 1, 22, 0, 0, 0, .int 1, [], [])), (22, (.goto 4, 25, 26, 0, 0, .null, [], [])), (25, (.iconst 0, 26, 0, 0, 0, .int 0, [], [])), (26, (.ireturn, 27, 0, 0, 3, .null, [], []))])]
def zc_Mo_areTwo : zCd := zFd zl_Mo_areTwo
def zl_Mo_line : List (Nat × List (Nat × zEnt)) := [(11, [(0, (.aload_n 0, 1, 0, 0, 0, .null, [], [])), (1, (.iload_n 1, 2, 1, 0, 0, .null, [], [])), (2, (.iload_n 2, 3, 2, 0, 0, .null, [], [])), (3, (.invokevirtual 223, 6, 162, 3, 0, .ref 10, [], [])), (6, (.ifCond .ne 5, 9, 11, 0, 0, .null, [], [])), (9, (.iconst (-1), 10, 0, 0, 0, .int (-1), [], [])), (10, (.ireturn, 11, 0, 0, 0, .null, [], [])), (11, (.aload_n 0, 12, 0, 0, 0, .null, [], []))]),
  (56, [(12, (.iload_n 1, 13, 1, 0, 0, .null, [], [])), (13, (.iload_n 2, 14, 2, 0, 0, .null, [], [])), (14, (.invokevirtual 227, 17, 159, 3, 9, .ref 10, [], [])), (17, (.iload_n 3, 18, 3, 0, 0, .null, [], [])), (18, (.tableswitch 83 0 4 #[34, 39, 56, 61, 78], 52, 101, 0, 0, .null, [], [52, 57, 74, 79, 96])), (52, (.aload_n 0, 53, 0, 0, 0, .null, [], [])), (53, (.getfield 203, 56, 10, 14, 0, .null, [], [])), (56, (.ireturn, 57, 0, 0, 0, .null, [], []))]),
  (72, [(57, (.aload_n 0, 58, 0, 0, 0, .null, [], [])), (58, (.getfield 203, 61, 10, 14, 0, .null, [], [])), (61, (.ifCond .ne 7, 64, 68, 0, 0, .null, [], [])), (64, (.iconst 0, 65, 0, 0, 0, .int 0, [], [])), (65, (.goto 8, 68, 73, 0, 0, .null, [], [])), (68, (.aload_n 0, 69, 0, 0, 0, .null, [], [])), (69, (.getfield 172, 72, 10, 15, 1, .null, [], [])), (72, (.l2i, 73, 0, 0, 0, .null, [], []))]),
  (86, [(73, (.ireturn, 74, 0, 0, 0, .null, [], [])), (74, (.aload_n 0, 75, 0, 0, 0, .null, [], [])), (75, (.getfield 200, 78, 10, 24, 0, .null, [], [])), (78, (.ireturn, 79, 0, 0, 0, .null, [], [])), (79, (.aload_n 0, 80, 0, 0, 0, .null, [], [])), (80, (.getfield 203, 83, 10, 14, 0, .null, [], [])), (83, (.ifCond .ne 8, 86, 91, 0, 0, .null, [], [])), (86, (.bipush (-4), 88, 0, 0, 0, .int (-4), [], []))]),
  (101, [(88, (.goto 7, 91, 95, 0, 0, .null, [], [])), (91, (.aload_n 0, 92, 0, 0, 0, .null, [], [])), (92, (.getfield 188, 95, 10, 20, 0, .null, [], [])), (95, (.ireturn, 96, 0, 0, 0, .null, [], [])), (96, (.aload_n 0, 97, 0, 0, 0, .null, [], [])), (97, (.invokevirtual 230, 100, 161, 1, 0, .ref 10, [], [])), (100, (.ireturn, 101, 0, 0, 0, .null, [], [])), (101, (.iconst (-1), 102, 0, 0, 0, .int (-1), [], []))]),
  (102, [(102, (.ireturn, 103, 0, 0, 0, .null, [], []))])]
def zc_Mo_line : zCd := zFd zl_Mo_line
def zl_Mo_sum : List (Nat × List (Nat × zEnt)) := [(11, [(0, (.aload_n 0, 1, 0, 0, 0, .null, [], [])), (1, (.iload_n 1, 2, 1, 0, 0, .null, [], [])), (2, (.iload_n 2, 3, 2, 0, 0, .null, [], [])), (3, (.invokevirtual 223, 6, 162, 3, 0, .ref 10, [], [])), (6, (.ifCond .eq 15, 9, 21, 0, 0, .null, [], [])), (9, (.iload_n 3, 10, 3, 0, 0, .null, [], [])), (10, (.i2l, 11, 0, 0, 0, .null, [], [])), (11, (.lconst 0, 12, 0, 0, 0, .long 0, [], []))]),
  (27, [(12, (.ldc2_w 233, 15, 0, 0, 0, .long 5, [], [])), (15, (.invokestatic 65, 18, 130, 3, 0, .null, [], [])), (18, (.ifCond .ne 7, 21, 25, 0, 0, .null, [], [])), (21, (.ldc2_w 191, 24, 0, 0, 0, .long (-1), [], [])), (24, (.lreturn, 25, 0, 0, 0, .null, [], [])), (25, (.aload_n 0, 26, 0, 0, 0, .null, [], [])), (26, (.iload_n 1, 27, 1, 0, 0, .null, [], [])), (27, (.iload_n 2, 28, 2, 0, 0, .null, [], []))]),
  (43, [(28, (.invokevirtual 227, 31, 159, 3, 9, .ref 10, [], [])), (31, (.aload_n 0, 32, 0, 0, 0, .null, [], [])), (32, (.getfield 203, 35, 10, 14, 0, .null, [], [])), (35, (.ifCond .ne 7, 38, 42, 0, 0, .null, [], [])), (38, (.ldc2_w 235, 41, 0, 0, 0, .long (-4), [], [])), (41, (.lreturn, 42, 0, 0, 0, .null, [], [])), (42, (.iload_n 3, 43, 3, 0, 0, .null, [], [])), (43, (.tableswitch 58 0 4 #[33, 38, 43, 48, 53], 76, 101, 0, 0, .null, [], [76, 81, 86, 91, 96]))]),
  (87, [(76, (.aload_n 0, 77, 0, 0, 0, .null, [], [])), (77, (.getfield 172, 80, 10, 15, 1, .null, [], [])), (80, (.lreturn, 81, 0, 0, 0, .null, [], [])), (81, (.aload_n 0, 82, 0, 0, 0, .null, [], [])), (82, (.getfield 176, 85, 10, 16, 1, .null, [], [])), (85, (.lreturn, 86, 0, 0, 0, .null, [], [])), (86, (.aload_n 0, 87, 0, 0, 0, .null, [], [])), (87, (.getfield 179, 90, 10, 17, 1, .null, [], []))]),
  (101, [(90, (.lreturn, 91, 0, 0, 0, .null, [], [])), (91, (.aload_n 0, 92, 0, 0, 0, .null, [], [])), (92, (.getfield 182, 95, 10, 18, 1, .null, [], [])), (95, (.lreturn, 96, 0, 0, 0, .null, [], [])), (96, (.aload_n 0, 97, 0, 0, 0, .null, [], [])), (97, (.getfield 185, 100, 10, 19, 1, .null, [], [])), (100, (.lreturn, 101, 0, 0, 0, .null, [], [])), (101, (.aload_n 0, 102, 0, 0, 0, .null, [], []))]),
  (105, [(102, (.getfield 193, 105, 10, 21, 1, .null, [], [])), (105, (.lreturn, 106, 0, 0, 0, .null, [], []))])]
def zc_Mo_sum : zCd := zFd zl_Mo_sum
def zl_Mo_struck : List (Nat × List (Nat × zEnt)) := [(13, [(0, (.aload_n 0, 1, 0, 0, 0, .null, [], [])), (1, (.iload_n 1, 2, 1, 0, 0, .null, [], [])), (2, (.iload_n 2, 3, 2, 0, 0, .null, [], [])), (3, (.invokevirtual 223, 6, 162, 3, 0, .ref 10, [], [])), (6, (.ifCond .eq 7, 9, 13, 0, 0, .null, [], [])), (9, (.iload_n 3, 10, 3, 0, 0, .null, [], [])), (10, (.ifCond .ge 5, 13, 15, 0, 0, .null, [], [])), (13, (.iconst (-1), 14, 0, 0, 0, .int (-1), [], []))]),
  (24, [(14, (.ireturn, 15, 0, 0, 0, .null, [], [])), (15, (.aload_n 0, 16, 0, 0, 0, .null, [], [])), (16, (.iload_n 1, 17, 1, 0, 0, .null, [], [])), (17, (.iload_n 2, 18, 2, 0, 0, .null, [], [])), (18, (.invokevirtual 227, 21, 159, 3, 9, .ref 10, [], [])), (21, (.iconst 0, 22, 0, 0, 0, .int 0, [], [])), (22, (.istore 4, 24, 4, 0, 0, .null, [], [])), (24, (.iload 4, 26, 4, 0, 0, .null, [1, 2], []))]),
  (40, [(26, (.bipush 16, 28, 0, 0, 0, .int 16, [], [])), (28, (.if_icmp .ge 33, 31, 61, 0, 0, .null, [], [])), (31, (.iload_n 3, 32, 3, 0, 0, .null, [], [])), (32, (.aload_n 0, 33, 0, 0, 0, .null, [], [])), (33, (.getfield 200, 36, 10, 24, 0, .null, [], [])), (36, (.if_icmp .ge 19, 39, 55, 0, 0, .null, [], [])), (39, (.aload_n 0, 40, 0, 0, 0, .null, [], [])), (40, (.getfield 29, 43, 10, 23, 2, .null, [], []))]),
  (54, [(43, (.iload 4, 45, 4, 0, 0, .null, [], [])), (45, (.iaload, 46, 0, 0, 0, .null, [], [])), (46, (.iload_n 3, 47, 3, 0, 0, .null, [], [])), (47, (.iconst 1, 48, 0, 0, 0, .int 1, [], [])), (48, (.iadd, 49, 0, 0, 0, .null, [], [])), (49, (.if_icmp .ne 6, 52, 55, 0, 0, .null, [], [])), (52, (.iload 4, 54, 4, 0, 0, .null, [], [])), (54, (.ireturn, 55, 0, 0, 0, .null, [], []))]),
  (63, [(55, (.iinc 4 1, 58, 4, 0, 0, .int 1, [], [])), (58, (.goto (-34), 61, 24, 0, 0, .null, [], [])), (61, (.bipush (-4), 63, 0, 0, 0, .int (-4), [], [])), (63, (.ireturn, 64, 0, 0, 0, .null, [], []))])]
def zc_Mo_struck : zCd := zFd zl_Mo_struck
def zl_Mo_far : List (Nat × List (Nat × zEnt)) := [(13, [(0, (.aload_n 0, 1, 0, 0, 0, .null, [], [])), (1, (.iload_n 1, 2, 1, 0, 0, .null, [], [])), (2, (.iload_n 2, 3, 2, 0, 0, .null, [], [])), (3, (.invokevirtual 223, 6, 162, 3, 0, .ref 10, [], [])), (6, (.ifCond .eq 10, 9, 16, 0, 0, .null, [], [])), (9, (.iload_n 3, 10, 3, 0, 0, .null, [], [])), (10, (.invokestatic 165, 13, 149, 1, 0, .null, [], [])), (13, (.ifCond .ne 7, 16, 20, 0, 0, .null, [], []))]),
  (27, [(16, (.ldc2_w 191, 19, 0, 0, 0, .long (-1), [], [])), (19, (.lreturn, 20, 0, 0, 0, .null, [], [])), (20, (.aload_n 0, 21, 0, 0, 0, .null, [], [])), (21, (.iload_n 1, 22, 1, 0, 0, .null, [], [])), (22, (.iload_n 2, 23, 2, 0, 0, .null, [], [])), (23, (.invokevirtual 227, 26, 159, 3, 9, .ref 10, [], [])), (26, (.aload_n 0, 27, 0, 0, 0, .null, [], [])), (27, (.getfield 203, 30, 10, 14, 0, .null, [], []))]),
  (45, [(30, (.ifCond .eq 12, 33, 42, 0, 0, .null, [], [])), (33, (.aload_n 0, 34, 0, 0, 0, .null, [], [])), (34, (.getfield 26, 37, 10, 22, 2, .null, [], [])), (37, (.iload_n 3, 38, 3, 0, 0, .null, [], [])), (38, (.baload, 39, 1, 0, 0, .null, [], [])), (39, (.ifCond .ne 9, 42, 48, 0, 0, .null, [], [])), (42, (.ldc2_w 235, 45, 0, 0, 0, .long (-4), [], [])), (45, (.goto 21, 48, 66, 0, 0, .null, [], []))]),
  (59, [(48, (.ldc2_w 217, 51, 0, 0, 0, .long 256, [], [])), (51, (.aload_n 0, 52, 0, 0, 0, .null, [], [])), (52, (.iload_n 3, 53, 3, 0, 0, .null, [], [])), (53, (.iload_n 1, 54, 1, 0, 0, .null, [], [])), (54, (.iload_n 2, 55, 2, 0, 0, .null, [], [])), (55, (.invokevirtual 196, 58, 157, 4, 1, .ref 10, [], [])), (58, (.lmul, 59, 0, 0, 0, .null, [], [])), (59, (.aload_n 0, 60, 0, 0, 0, .null, [], []))]),
  (66, [(60, (.invokevirtual 213, 63, 156, 1, 1, .ref 10, [], [])), (63, (.invokestatic 219, 66, 160, 2, 1, .null, [], [])), (66, (.lreturn, 67, 0, 0, 0, .null, [], []))])]
def zc_Mo_far : zCd := zFd zl_Mo_far
def zl_Mo_findsCosts : List (Nat × List (Nat × zEnt)) := [(9, [(0, (.iconst 0, 1, 0, 0, 0, .int 0, [], [])), (1, (.istore_n 1, 2, 1, 0, 0, .null, [], [])), (2, (.iload_n 1, 3, 1, 0, 0, .null, [2], [])), (3, (.aload_n 0, 4, 0, 0, 0, .null, [], [])), (4, (.getfield 7, 7, 10, 0, 2, .null, [], [])), (7, (.iconst 0, 8, 0, 0, 0, .int 0, [], [])), (8, (.iaload, 9, 0, 0, 0, .null, [], [])), (9, (.if_icmp .ge 77, 12, 86, 0, 0, .null, [], []))]),
  (21, [(12, (.iconst 0, 13, 0, 0, 0, .int 0, [], [])), (13, (.istore_n 2, 14, 2, 0, 0, .null, [], [])), (14, (.iload_n 2, 15, 2, 0, 0, .null, [], [])), (15, (.aload_n 0, 16, 0, 0, 0, .null, [], [])), (16, (.getfield 7, 19, 10, 0, 2, .null, [], [])), (19, (.iconst 0, 20, 0, 0, 0, .int 0, [], [])), (20, (.iaload, 21, 0, 0, 0, .null, [], [])), (21, (.if_icmp .ge 59, 24, 80, 0, 0, .null, [], []))]),
  (34, [(24, (.aload_n 0, 25, 0, 0, 0, .null, [], [])), (25, (.getfield 32, 28, 10, 25, 2, .null, [], [])), (28, (.bipush 7, 30, 0, 0, 0, .int 7, [], [])), (30, (.iload_n 1, 31, 1, 0, 0, .null, [], [])), (31, (.imul, 32, 0, 0, 0, .null, [], [])), (32, (.iload_n 2, 33, 2, 0, 0, .null, [], [])), (33, (.iadd, 34, 0, 0, 0, .null, [], [])), (34, (.iconst 0, 35, 0, 0, 0, .int 0, [], []))]),
  (44, [(35, (.iastore, 36, 0, 0, 0, .null, [], [])), (36, (.iload_n 1, 37, 1, 0, 0, .null, [], [])), (37, (.iload_n 2, 38, 2, 0, 0, .null, [], [])), (38, (.if_icmp .eq 36, 41, 74, 0, 0, .null, [], [])), (41, (.aload_n 0, 42, 0, 0, 0, .null, [], [])), (42, (.iload_n 1, 43, 1, 0, 0, .null, [], [])), (43, (.iload_n 2, 44, 2, 0, 0, .null, [], [])), (44, (.invokevirtual 227, 47, 159, 3, 9, .ref 10, [], []))]),
  (57, [(47, (.aload_n 0, 48, 0, 0, 0, .null, [], [])), (48, (.getfield 32, 51, 10, 25, 2, .null, [], [])), (51, (.bipush 7, 53, 0, 0, 0, .int 7, [], [])), (53, (.iload_n 1, 54, 1, 0, 0, .null, [], [])), (54, (.imul, 55, 0, 0, 0, .null, [], [])), (55, (.iload_n 2, 56, 2, 0, 0, .null, [], [])), (56, (.iadd, 57, 0, 0, 0, .null, [], [])), (57, (.aload_n 0, 58, 0, 0, 0, .null, [], []))]),
  (73, [(58, (.getfield 203, 61, 10, 14, 0, .null, [], [])), (61, (.iconst 2, 62, 0, 0, 0, .int 2, [], [])), (62, (.if_icmp .ne 10, 65, 72, 0, 0, .null, [], [])), (65, (.aload_n 0, 66, 0, 0, 0, .null, [], [])), (66, (.invokevirtual 230, 69, 161, 1, 0, .ref 10, [], [])), (69, (.goto 4, 72, 73, 0, 0, .null, [], [])), (72, (.iconst 0, 73, 0, 0, 0, .int 0, [], [])), (73, (.iastore, 74, 0, 0, 0, .null, [], []))]),
  (86, [(74, (.iinc 2 1, 77, 2, 0, 0, .int 1, [], [])), (77, (.goto (-63), 80, 14, 0, 0, .null, [], [])), (80, (.iinc 1 1, 83, 1, 0, 0, .int 1, [], [])), (83, (.goto (-81), 86, 2, 0, 0, .null, [], [])), (86, (.return_, 87, 0, 0, 0, .null, [], []))])]
def zc_Mo_findsCosts : zCd := zFd zl_Mo_findsCosts
def zl_Mo_isLess : List (Nat × List (Nat × zEnt)) := [(10, [(0, (.aload_n 0, 1, 0, 0, 0, .null, [], [])), (1, (.getfield 32, 4, 10, 25, 2, .null, [], [])), (4, (.bipush 7, 6, 0, 0, 0, .int 7, [], [])), (6, (.iload_n 1, 7, 1, 0, 0, .null, [], [])), (7, (.imul, 8, 0, 0, 0, .null, [], [])), (8, (.iload_n 2, 9, 2, 0, 0, .null, [], [])), (9, (.iadd, 10, 0, 0, 0, .null, [], [])), (10, (.iaload, 11, 0, 0, 0, .null, [], []))]),
  (22, [(11, (.istore_n 3, 12, 3, 0, 0, .null, [], [])), (12, (.iload_n 3, 13, 3, 0, 0, .null, [], [])), (13, (.ifCond .eq 14, 16, 27, 0, 0, .null, [], [])), (16, (.aload_n 0, 17, 0, 0, 0, .null, [4], [])), (17, (.getfield 35, 20, 10, 26, 2, .null, [], [])), (20, (.iload_n 2, 21, 2, 0, 0, .null, [], [])), (21, (.iaload, 22, 0, 0, 0, .null, [], [])), (22, (.ldc 237, 24, 0, 0, 0, .int 1000000000, [], []))]),
  (35, [(24, (.if_icmp .ne 5, 27, 29, 0, 0, .null, [], [])), (27, (.iconst 0, 28, 0, 0, 0, .int 0, [], [])), (28, (.ireturn, 29, 0, 0, 3, .null, [], [])), (29, (.aload_n 0, 30, 0, 0, 0, .null, [], [])), (30, (.getfield 35, 33, 10, 26, 2, .null, [], [])), (33, (.iload_n 2, 34, 2, 0, 0, .null, [], [])), (34, (.iaload, 35, 0, 0, 0, .null, [], [])), (35, (.iload_n 3, 36, 3, 0, 0, .null, [], []))]),
  (47, [(36, (.iadd, 37, 0, 0, 0, .null, [], [])), (37, (.istore 4, 39, 4, 0, 0, .null, [], [])), (39, (.iload 4, 41, 4, 0, 0, .null, [], [])), (41, (.aload_n 0, 42, 0, 0, 0, .null, [], [])), (42, (.getfield 35, 45, 10, 26, 2, .null, [], [])), (45, (.iload_n 1, 46, 1, 0, 0, .null, [], [])), (46, (.iaload, 47, 0, 0, 0, .null, [], [])), (47, (.if_icmp .lt 31, 50, 78, 0, 0, .null, [], []))]),
  (62, [(50, (.iload 4, 52, 4, 0, 0, .null, [], [])), (52, (.aload_n 0, 53, 0, 0, 0, .null, [], [])), (53, (.getfield 35, 56, 10, 26, 2, .null, [], [])), (56, (.iload_n 1, 57, 1, 0, 0, .null, [], [])), (57, (.iaload, 58, 0, 0, 0, .null, [], [])), (58, (.if_icmp .ne 24, 61, 82, 0, 0, .null, [], [])), (61, (.aload_n 0, 62, 0, 0, 0, .null, [], [])), (62, (.getfield 38, 65, 10, 27, 2, .null, [], []))]),
  (74, [(65, (.iload_n 2, 66, 2, 0, 0, .null, [], [])), (66, (.iaload, 67, 0, 0, 0, .null, [], [])), (67, (.iconst 1, 68, 0, 0, 0, .int 1, [], [])), (68, (.iadd, 69, 0, 0, 0, .null, [], [])), (69, (.aload_n 0, 70, 0, 0, 0, .null, [], [])), (70, (.getfield 38, 73, 10, 27, 2, .null, [], [])), (73, (.iload_n 1, 74, 1, 0, 0, .null, [], [])), (74, (.iaload, 75, 0, 0, 0, .null, [], []))]),
  (83, [(75, (.if_icmp .ge 7, 78, 82, 0, 0, .null, [], [])), (78, (.iconst 1, 79, 0, 0, 0, .int 1, [], [])), (79, (.goto 4, 82, 83, 0, 0, .null, [], [])), (82, (.iconst 0, 83, 0, 0, 0, .int 0, [], [])), (83, (.ireturn, 84, 0, 0, 3, .null, [], []))])]
def zc_Mo_isLess : zCd := zFd zl_Mo_isLess
def zl_Mo_findsLeast : List (Nat × List (Nat × zEnt)) := [(13, [(0, (.iconst 0, 1, 0, 0, 0, .int 0, [], [])), (1, (.istore_n 2, 2, 2, 0, 0, .null, [], [])), (2, (.iload_n 2, 3, 2, 0, 0, .null, [3, 4], [])), (3, (.bipush 7, 5, 0, 0, 0, .int 7, [], [])), (5, (.if_icmp .ge 33, 8, 38, 0, 0, .null, [], [])), (8, (.aload_n 0, 9, 0, 0, 0, .null, [], [])), (9, (.getfield 35, 12, 10, 26, 2, .null, [], [])), (12, (.iload_n 2, 13, 2, 0, 0, .null, [], [])), (13, (.iload_n 2, 14, 2, 0, 0, .null, [], []))]),
  (29, [(14, (.iload_n 1, 15, 1, 0, 0, .null, [], [])), (15, (.if_icmp .ne 7, 18, 22, 0, 0, .null, [], [])), (18, (.iconst 0, 19, 0, 0, 0, .int 0, [], [])), (19, (.goto 5, 22, 24, 0, 0, .null, [], [])), (22, (.ldc 237, 24, 0, 0, 0, .int 1000000000, [], [])), (24, (.iastore, 25, 0, 0, 0, .null, [], [])), (25, (.aload_n 0, 26, 0, 0, 0, .null, [], [])), (26, (.getfield 38, 29, 10, 27, 2, .null, [], [])), (29, (.iload_n 2, 30, 2, 0, 0, .null, [], []))]),
  (44, [(30, (.iconst 0, 31, 0, 0, 0, .int 0, [], [])), (31, (.iastore, 32, 0, 0, 0, .null, [], [])), (32, (.iinc 2 1, 35, 2, 0, 0, .int 1, [], [])), (35, (.goto (-33), 38, 2, 0, 0, .null, [], [])), (38, (.iconst 1, 39, 0, 0, 0, .int 1, [], [])), (39, (.istore_n 2, 40, 2, 0, 0, .null, [], [])), (40, (.iload_n 2, 41, 2, 0, 0, .null, [1, 3, 4], [])), (41, (.ifCond .eq 99, 44, 140, 0, 0, .null, [], [])), (44, (.iconst 0, 45, 0, 0, 0, .int 0, [], []))]),
  (55, [(45, (.istore_n 2, 46, 2, 0, 0, .null, [], [])), (46, (.iconst 0, 47, 0, 0, 0, .int 0, [], [])), (47, (.istore_n 3, 48, 3, 0, 0, .null, [], [])), (48, (.iload_n 3, 49, 3, 0, 0, .null, [1, 4], [])), (49, (.aload_n 0, 50, 0, 0, 0, .null, [], [])), (50, (.getfield 7, 53, 10, 0, 2, .null, [], [])), (53, (.iconst 0, 54, 0, 0, 0, .int 0, [], [])), (54, (.iaload, 55, 0, 0, 0, .null, [], [])), (55, (.if_icmp .ge 82, 58, 137, 0, 0, .null, [], []))]),
  (72, [(58, (.iconst 0, 59, 0, 0, 0, .int 0, [], [])), (59, (.istore 4, 61, 4, 0, 0, .null, [], [])), (61, (.iload 4, 63, 4, 0, 0, .null, [1], [])), (63, (.aload_n 0, 64, 0, 0, 0, .null, [], [])), (64, (.getfield 7, 67, 10, 0, 2, .null, [], [])), (67, (.iconst 0, 68, 0, 0, 0, .int 0, [], [])), (68, (.iaload, 69, 0, 0, 0, .null, [], [])), (69, (.if_icmp .ge 62, 72, 131, 0, 0, .null, [], [])), (72, (.aload_n 0, 73, 0, 0, 0, .null, [1], []))]),
  (88, [(73, (.iload_n 3, 74, 3, 0, 0, .null, [], [])), (74, (.iload 4, 76, 4, 0, 0, .null, [], [])), (76, (.invokevirtual 238, 79, 168, 3, 0, .ref 10, [], [])), (79, (.ifCond .eq 46, 82, 125, 0, 0, .null, [], [])), (82, (.aload_n 0, 83, 0, 0, 0, .null, [], [])), (83, (.getfield 35, 86, 10, 26, 2, .null, [], [])), (86, (.iload_n 3, 87, 3, 0, 0, .null, [], [])), (87, (.aload_n 0, 88, 0, 0, 0, .null, [], [])), (88, (.getfield 35, 91, 10, 26, 2, .null, [], []))]),
  (104, [(91, (.iload 4, 93, 4, 0, 0, .null, [], [])), (93, (.iaload, 94, 0, 0, 0, .null, [], [])), (94, (.aload_n 0, 95, 0, 0, 0, .null, [], [])), (95, (.getfield 32, 98, 10, 25, 2, .null, [], [])), (98, (.bipush 7, 100, 0, 0, 0, .int 7, [], [])), (100, (.iload_n 3, 101, 3, 0, 0, .null, [], [])), (101, (.imul, 102, 0, 0, 0, .null, [], [])), (102, (.iload 4, 104, 4, 0, 0, .null, [], [])), (104, (.iadd, 105, 0, 0, 0, .null, [], []))]),
  (117, [(105, (.iaload, 106, 0, 0, 0, .null, [], [])), (106, (.iadd, 107, 0, 0, 0, .null, [], [])), (107, (.iastore, 108, 0, 0, 0, .null, [], [])), (108, (.aload_n 0, 109, 0, 0, 0, .null, [], [])), (109, (.getfield 38, 112, 10, 27, 2, .null, [], [])), (112, (.iload_n 3, 113, 3, 0, 0, .null, [], [])), (113, (.aload_n 0, 114, 0, 0, 0, .null, [], [])), (114, (.getfield 38, 117, 10, 27, 2, .null, [], [])), (117, (.iload 4, 119, 4, 0, 0, .null, [], []))]),
  (131, [(119, (.iaload, 120, 0, 0, 0, .null, [], [])), (120, (.iconst 1, 121, 0, 0, 0, .int 1, [], [])), (121, (.iadd, 122, 0, 0, 0, .null, [], [])), (122, (.iastore, 123, 0, 0, 0, .null, [], [])), (123, (.iconst 1, 124, 0, 0, 0, .int 1, [], [])), (124, (.istore_n 2, 125, 2, 0, 0, .null, [], [])), (125, (.iinc 4 1, 128, 4, 0, 0, .int 1, [], [])), (128, (.goto (-67), 131, 61, 0, 0, .null, [], [])), (131, (.iinc 3 1, 134, 3, 0, 0, .int 1, [], []))]),
  (140, [(134, (.goto (-86), 137, 48, 0, 0, .null, [], [])), (137, (.goto (-97), 140, 40, 0, 0, .null, [], [])), (140, (.return_, 141, 0, 0, 0, .null, [], []))])]
def zc_Mo_findsLeast : zCd := zFd zl_Mo_findsLeast
def zl_Mo_findsChain : List (Nat × List (Nat × zEnt)) := [(15, [(0, (.aload_n 0, 1, 0, 0, 0, .null, [], [])), (1, (.invokevirtual 241, 4, 167, 1, 9, .ref 10, [], [])), (4, (.aload_n 0, 5, 0, 0, 0, .null, [], [])), (5, (.iload_n 2, 6, 2, 0, 0, .null, [], [])), (6, (.invokevirtual 244, 9, 169, 2, 9, .ref 10, [], [])), (9, (.aload_n 0, 10, 0, 0, 0, .null, [], [])), (10, (.iconst 0, 11, 0, 0, 0, .int 0, [], [])), (11, (.putfield 248, 14, 10, 29, 0, .null, [], [])), (14, (.aload_n 0, 15, 0, 0, 0, .null, [], [])), (15, (.getfield 35, 18, 10, 26, 2, .null, [], []))]),
  (32, [(18, (.iload_n 1, 19, 1, 0, 0, .null, [], [])), (19, (.iaload, 20, 0, 0, 0, .null, [], [])), (20, (.ldc 237, 22, 0, 0, 0, .int 1000000000, [], [])), (22, (.if_icmp .ne 4, 25, 26, 0, 0, .null, [], [])), (25, (.return_, 26, 0, 0, 0, .null, [], [])), (26, (.aload_n 0, 27, 0, 0, 0, .null, [], [])), (27, (.getfield 41, 30, 10, 28, 2, .null, [], [])), (30, (.iconst 0, 31, 0, 0, 0, .int 0, [], [])), (31, (.iload_n 1, 32, 1, 0, 0, .null, [], [])), (32, (.iastore, 33, 0, 0, 0, .null, [], []))]),
  (48, [(33, (.aload_n 0, 34, 0, 0, 0, .null, [], [])), (34, (.iconst 1, 35, 0, 0, 0, .int 1, [], [])), (35, (.putfield 248, 38, 10, 29, 0, .null, [], [])), (38, (.aload_n 0, 39, 0, 0, 0, .null, [1, 3, 4], [])), (39, (.getfield 41, 42, 10, 28, 2, .null, [], [])), (42, (.aload_n 0, 43, 0, 0, 0, .null, [], [])), (43, (.getfield 248, 46, 10, 29, 0, .null, [], [])), (46, (.iconst 1, 47, 0, 0, 0, .int 1, [], [])), (47, (.isub, 48, 0, 0, 0, .null, [], [])), (48, (.iaload, 49, 0, 0, 0, .null, [], []))]),
  (64, [(49, (.iload_n 2, 50, 2, 0, 0, .null, [], [])), (50, (.if_icmp .eq 122, 53, 172, 0, 0, .null, [], [])), (53, (.aload_n 0, 54, 0, 0, 0, .null, [], [])), (54, (.getfield 41, 57, 10, 28, 2, .null, [], [])), (57, (.aload_n 0, 58, 0, 0, 0, .null, [], [])), (58, (.getfield 248, 61, 10, 29, 0, .null, [], [])), (61, (.iconst 1, 62, 0, 0, 0, .int 1, [], [])), (62, (.isub, 63, 0, 0, 0, .null, [], [])), (63, (.iaload, 64, 0, 0, 0, .null, [], [])), (64, (.istore_n 3, 65, 3, 0, 0, .null, [], []))]),
  (79, [(65, (.iconst 0, 66, 0, 0, 0, .int 0, [], [])), (66, (.istore 4, 68, 4, 0, 0, .null, [], [])), (68, (.aload_n 0, 69, 0, 0, 0, .null, [1], [])), (69, (.getfield 32, 72, 10, 25, 2, .null, [], [])), (72, (.bipush 7, 74, 0, 0, 0, .int 7, [], [])), (74, (.iload_n 3, 75, 3, 0, 0, .null, [], [])), (75, (.imul, 76, 0, 0, 0, .null, [], [])), (76, (.iload 4, 78, 4, 0, 0, .null, [], [])), (78, (.iadd, 79, 0, 0, 0, .null, [], [])), (79, (.iaload, 80, 0, 0, 0, .null, [], []))]),
  (99, [(80, (.ifCond .eq 62, 83, 142, 0, 0, .null, [], [])), (83, (.aload_n 0, 84, 0, 0, 0, .null, [], [])), (84, (.getfield 35, 87, 10, 26, 2, .null, [], [])), (87, (.iload 4, 89, 4, 0, 0, .null, [], [])), (89, (.iaload, 90, 0, 0, 0, .null, [], [])), (90, (.ldc 237, 92, 0, 0, 0, .int 1000000000, [], [])), (92, (.if_icmp .eq 50, 95, 142, 0, 0, .null, [], [])), (95, (.aload_n 0, 96, 0, 0, 0, .null, [1], [])), (96, (.getfield 35, 99, 10, 26, 2, .null, [], [])), (99, (.iload 4, 101, 4, 0, 0, .null, [], []))]),
  (114, [(101, (.iaload, 102, 0, 0, 0, .null, [], [])), (102, (.aload_n 0, 103, 0, 0, 0, .null, [], [])), (103, (.getfield 32, 106, 10, 25, 2, .null, [], [])), (106, (.bipush 7, 108, 0, 0, 0, .int 7, [], [])), (108, (.iload_n 3, 109, 3, 0, 0, .null, [], [])), (109, (.imul, 110, 0, 0, 0, .null, [], [])), (110, (.iload 4, 112, 4, 0, 0, .null, [], [])), (112, (.iadd, 113, 0, 0, 0, .null, [], [])), (113, (.iaload, 114, 0, 0, 0, .null, [], [])), (114, (.iadd, 115, 0, 0, 0, .null, [], []))]),
  (131, [(115, (.aload_n 0, 116, 0, 0, 0, .null, [], [])), (116, (.getfield 35, 119, 10, 26, 2, .null, [], [])), (119, (.iload_n 3, 120, 3, 0, 0, .null, [], [])), (120, (.iaload, 121, 0, 0, 0, .null, [], [])), (121, (.if_icmp .ne 21, 124, 142, 0, 0, .null, [], [])), (124, (.aload_n 0, 125, 0, 0, 0, .null, [], [])), (125, (.getfield 38, 128, 10, 27, 2, .null, [], [])), (128, (.iload 4, 130, 4, 0, 0, .null, [], [])), (130, (.iaload, 131, 0, 0, 0, .null, [], [])), (131, (.iconst 1, 132, 0, 0, 0, .int 1, [], []))]),
  (149, [(132, (.iadd, 133, 0, 0, 0, .null, [], [])), (133, (.aload_n 0, 134, 0, 0, 0, .null, [], [])), (134, (.getfield 38, 137, 10, 27, 2, .null, [], [])), (137, (.iload_n 3, 138, 3, 0, 0, .null, [], [])), (138, (.iaload, 139, 0, 0, 0, .null, [], [])), (139, (.if_icmp .eq 9, 142, 148, 0, 0, .null, [], [])), (142, (.iinc 4 1, 145, 4, 0, 0, .int 1, [], [])), (145, (.goto (-77), 148, 68, 0, 0, .null, [], [])), (148, (.aload_n 0, 149, 0, 0, 0, .null, [], [])), (149, (.getfield 41, 152, 10, 28, 2, .null, [], []))]),
  (166, [(152, (.aload_n 0, 153, 0, 0, 0, .null, [], [])), (153, (.getfield 248, 156, 10, 29, 0, .null, [], [])), (156, (.iload 4, 158, 4, 0, 0, .null, [], [])), (158, (.iastore, 159, 0, 0, 0, .null, [], [])), (159, (.aload_n 0, 160, 0, 0, 0, .null, [], [])), (160, (.dup, 161, 0, 0, 0, .null, [], [])), (161, (.getfield 248, 164, 10, 29, 0, .null, [], [])), (164, (.iconst 1, 165, 0, 0, 0, .int 1, [], [])), (165, (.iadd, 166, 0, 0, 0, .null, [], [])), (166, (.putfield 248, 169, 10, 29, 0, .null, [], []))]),
  (172, [(169, (.goto (-131), 172, 38, 0, 0, .null, [], [])), (172, (.return_, 173, 0, 0, 0, .null, [], []))])]
def zc_Mo_findsChain : zCd := zFd zl_Mo_findsChain
def zl_Mo_reaches : List (Nat × List (Nat × zEnt)) := [(9, [(0, (.iconst 0, 1, 0, 0, 0, .int 0, [], [])), (1, (.istore_n 2, 2, 2, 0, 0, .null, [], [])), (2, (.iconst 0, 3, 0, 0, 0, .int 0, [], [])), (3, (.istore_n 3, 4, 3, 0, 0, .null, [], [])), (4, (.iload_n 3, 5, 3, 0, 0, .null, [], [])), (5, (.aload_n 0, 6, 0, 0, 0, .null, [], [])), (6, (.getfield 7, 9, 10, 0, 2, .null, [], [])), (9, (.iconst 0, 10, 0, 0, 0, .int 0, [], []))]),
  (21, [(10, (.iaload, 11, 0, 0, 0, .null, [], [])), (11, (.if_icmp .ge 36, 14, 47, 0, 0, .null, [], [])), (14, (.aload_n 0, 15, 0, 0, 0, .null, [], [])), (15, (.iload_n 3, 16, 3, 0, 0, .null, [], [])), (16, (.invokevirtual 244, 19, 169, 2, 9, .ref 10, [], [])), (19, (.iload_n 2, 20, 2, 0, 0, .null, [], [])), (20, (.aload_n 0, 21, 0, 0, 0, .null, [], [])), (21, (.getfield 35, 24, 10, 26, 2, .null, [], []))]),
  (36, [(24, (.iload_n 1, 25, 1, 0, 0, .null, [], [])), (25, (.iaload, 26, 0, 0, 0, .null, [], [])), (26, (.ldc 237, 28, 0, 0, 0, .int 1000000000, [], [])), (28, (.if_icmp .eq 7, 31, 35, 0, 0, .null, [], [])), (31, (.iconst 1, 32, 0, 0, 0, .int 1, [], [])), (32, (.goto 4, 35, 36, 0, 0, .null, [], [])), (35, (.iconst 0, 36, 0, 0, 0, .int 0, [], [])), (36, (.invokestatic 149, 39, 131, 1, 0, .null, [], []))]),
  (48, [(39, (.iadd, 40, 0, 0, 0, .null, [], [])), (40, (.istore_n 2, 41, 2, 0, 0, .null, [], [])), (41, (.iinc 3 1, 44, 3, 0, 0, .int 1, [], [])), (44, (.goto (-40), 47, 4, 0, 0, .null, [], [])), (47, (.iload_n 2, 48, 2, 0, 0, .null, [], [])), (48, (.ireturn, 49, 0, 0, 0, .null, [], []))])]
def zc_Mo_reaches : zCd := zFd zl_Mo_reaches
def zl_Mo_reachable : List (Nat × List (Nat × zEnt)) := [(9, [(0, (.iconst 0, 1, 0, 0, 0, .int 0, [], [])), (1, (.istore_n 1, 2, 1, 0, 0, .null, [], [])), (2, (.aload_n 0, 3, 0, 0, 0, .null, [], [])), (3, (.invokevirtual 241, 6, 167, 1, 9, .ref 10, [], [])), (6, (.iconst 0, 7, 0, 0, 0, .int 0, [], [])), (7, (.istore_n 2, 8, 2, 0, 0, .null, [], [])), (8, (.iload_n 2, 9, 2, 0, 0, .null, [], [])), (9, (.aload_n 0, 10, 0, 0, 0, .null, [], []))]),
  (21, [(10, (.getfield 7, 13, 10, 0, 2, .null, [], [])), (13, (.iconst 0, 14, 0, 0, 0, .int 0, [], [])), (14, (.iaload, 15, 0, 0, 0, .null, [], [])), (15, (.if_icmp .ge 19, 18, 34, 0, 0, .null, [], [])), (18, (.iload_n 1, 19, 1, 0, 0, .null, [], [])), (19, (.aload_n 0, 20, 0, 0, 0, .null, [], [])), (20, (.iload_n 2, 21, 2, 0, 0, .null, [], [])), (21, (.invokevirtual 251, 24, 171, 2, 0, .ref 10, [], []))]),
  (35, [(24, (.iconst 1, 25, 0, 0, 0, .int 1, [], [])), (25, (.isub, 26, 0, 0, 0, .null, [], [])), (26, (.iadd, 27, 0, 0, 0, .null, [], [])), (27, (.istore_n 1, 28, 1, 0, 0, .null, [], [])), (28, (.iinc 2 1, 31, 2, 0, 0, .int 1, [], [])), (31, (.goto (-23), 34, 8, 0, 0, .null, [], [])), (34, (.iload_n 1, 35, 1, 0, 0, .null, [], [])), (35, (.ireturn, 36, 0, 0, 0, .null, [], []))])]
def zc_Mo_reachable : zCd := zFd zl_Mo_reachable
def zl_Mo_ofLines : List (Nat × List (Nat × zEnt)) := [(9, [(0, (.iconst 0, 1, 0, 0, 0, .int 0, [], [])), (1, (.istore_n 2, 2, 2, 0, 0, .null, [], [])), (2, (.iconst 0, 3, 0, 0, 0, .int 0, [], [])), (3, (.istore_n 3, 4, 3, 0, 0, .null, [], [])), (4, (.iload_n 3, 5, 3, 0, 0, .null, [4], [])), (5, (.aload_n 0, 6, 0, 0, 0, .null, [], [])), (6, (.getfield 7, 9, 10, 0, 2, .null, [], [])), (9, (.iconst 0, 10, 0, 0, 0, .int 0, [], []))]),
  (23, [(10, (.iaload, 11, 0, 0, 0, .null, [], [])), (11, (.if_icmp .ge 83, 14, 94, 0, 0, .null, [], [])), (14, (.iconst 0, 15, 0, 0, 0, .int 0, [], [])), (15, (.istore 4, 17, 4, 0, 0, .null, [], [])), (17, (.iload 4, 19, 4, 0, 0, .null, [], [])), (19, (.aload_n 0, 20, 0, 0, 0, .null, [], [])), (20, (.getfield 7, 23, 10, 0, 2, .null, [], [])), (23, (.iconst 0, 24, 0, 0, 0, .int 0, [], []))]),
  (36, [(24, (.iaload, 25, 0, 0, 0, .null, [], [])), (25, (.if_icmp .ge 63, 28, 88, 0, 0, .null, [], [])), (28, (.iload_n 3, 29, 3, 0, 0, .null, [], [])), (29, (.iload 4, 31, 4, 0, 0, .null, [], [])), (31, (.if_icmp .eq 51, 34, 82, 0, 0, .null, [], [])), (34, (.aload_n 0, 35, 0, 0, 0, .null, [], [])), (35, (.iload_n 3, 36, 3, 0, 0, .null, [], [])), (36, (.iload 4, 38, 4, 0, 0, .null, [], []))]),
  (52, [(38, (.invokevirtual 227, 41, 159, 3, 9, .ref 10, [], [])), (41, (.iload_n 2, 42, 2, 0, 0, .null, [], [])), (42, (.iload_n 1, 43, 1, 0, 0, .null, [], [])), (43, (.bipush 7, 45, 0, 0, 0, .int 7, [], [])), (45, (.if_icmp .ne 10, 48, 55, 0, 0, .null, [], [])), (48, (.aload_n 0, 49, 0, 0, 0, .null, [], [])), (49, (.getfield 200, 52, 10, 24, 0, .null, [], [])), (52, (.goto 28, 55, 80, 0, 0, .null, [], []))]),
  (68, [(55, (.aload_n 0, 56, 0, 0, 0, .null, [], [])), (56, (.getfield 203, 59, 10, 14, 0, .null, [], [])), (59, (.iload_n 1, 60, 1, 0, 0, .null, [], [])), (60, (.iconst 4, 61, 0, 0, 0, .int 4, [], [])), (61, (.if_icmp .ne 7, 64, 68, 0, 0, .null, [], [])), (64, (.iconst 2, 65, 0, 0, 0, .int 2, [], [])), (65, (.goto 4, 68, 69, 0, 0, .null, [], [])), (68, (.iconst 1, 69, 0, 0, 0, .int 1, [], []))]),
  (82, [(69, (.if_icmp .ne 7, 72, 76, 0, 0, .null, [], [])), (72, (.iconst 1, 73, 0, 0, 0, .int 1, [], [])), (73, (.goto 4, 76, 77, 0, 0, .null, [], [])), (76, (.iconst 0, 77, 0, 0, 0, .int 0, [], [])), (77, (.invokestatic 149, 80, 131, 1, 0, .null, [], [])), (80, (.iadd, 81, 0, 0, 0, .null, [], [])), (81, (.istore_n 2, 82, 2, 0, 0, .null, [], [])), (82, (.iinc 4 1, 85, 4, 0, 0, .int 1, [], []))]),
  (95, [(85, (.goto (-68), 88, 17, 0, 0, .null, [], [])), (88, (.iinc 3 1, 91, 3, 0, 0, .int 1, [], [])), (91, (.goto (-87), 94, 4, 0, 0, .null, [], [])), (94, (.iload_n 2, 95, 2, 0, 0, .null, [], [])), (95, (.ireturn, 96, 0, 0, 0, .null, [], []))])]
def zc_Mo_ofLines : zCd := zFd zl_Mo_ofLines
def zl_Mo_goodOf : List (Nat × List (Nat × zEnt)) := [(11, [(0, (.iconst 0, 1, 0, 0, 0, .int 0, [], [])), (1, (.istore_n 3, 2, 3, 0, 0, .null, [], [])), (2, (.aload_n 0, 3, 0, 0, 0, .null, [], [])), (3, (.invokevirtual 241, 6, 167, 1, 9, .ref 10, [], [])), (6, (.iconst 0, 7, 0, 0, 0, .int 0, [], [])), (7, (.istore 4, 9, 4, 0, 0, .null, [], [])), (9, (.iload 4, 11, 4, 0, 0, .null, [], [])), (11, (.aload_n 0, 12, 0, 0, 0, .null, [], []))]),
  (25, [(12, (.getfield 7, 15, 10, 0, 2, .null, [], [])), (15, (.iconst 0, 16, 0, 0, 0, .int 0, [], [])), (16, (.iaload, 17, 0, 0, 0, .null, [], [])), (17, (.if_icmp .ge 49, 20, 66, 0, 0, .null, [], [])), (20, (.iload_n 3, 21, 3, 0, 0, .null, [], [])), (21, (.aload_n 0, 22, 0, 0, 0, .null, [], [])), (22, (.getfield 32, 25, 10, 25, 2, .null, [], [])), (25, (.iload_n 2, 26, 2, 0, 0, .null, [], []))]),
  (39, [(26, (.ifCond .eq 13, 29, 39, 0, 0, .null, [], [])), (29, (.bipush 7, 31, 0, 0, 0, .int 7, [], [])), (31, (.iload_n 1, 32, 1, 0, 0, .null, [], [])), (32, (.imul, 33, 0, 0, 0, .null, [], [])), (33, (.iload 4, 35, 4, 0, 0, .null, [], [])), (35, (.iadd, 36, 0, 0, 0, .null, [], [])), (36, (.goto 10, 39, 46, 0, 0, .null, [], [])), (39, (.bipush 7, 41, 0, 0, 0, .int 7, [], []))]),
  (51, [(41, (.iload 4, 43, 4, 0, 0, .null, [], [])), (43, (.imul, 44, 0, 0, 0, .null, [], [])), (44, (.iload_n 1, 45, 1, 0, 0, .null, [], [])), (45, (.iadd, 46, 0, 0, 0, .null, [], [])), (46, (.iaload, 47, 0, 0, 0, .null, [3], [])), (47, (.ifCond .le 7, 50, 54, 0, 0, .null, [], [])), (50, (.iconst 1, 51, 0, 0, 0, .int 1, [], [])), (51, (.goto 4, 54, 55, 0, 0, .null, [], []))]),
  (67, [(54, (.iconst 0, 55, 0, 0, 0, .int 0, [], [])), (55, (.invokestatic 149, 58, 131, 1, 0, .null, [], [])), (58, (.iadd, 59, 0, 0, 0, .null, [], [])), (59, (.istore_n 3, 60, 3, 0, 0, .null, [], [])), (60, (.iinc 4 1, 63, 4, 0, 0, .int 1, [], [])), (63, (.goto (-54), 66, 9, 0, 0, .null, [], [])), (66, (.iload_n 3, 67, 3, 0, 0, .null, [], [])), (67, (.ireturn, 68, 0, 0, 0, .null, [], []))])]
def zc_Mo_goodOf : zCd := zFd zl_Mo_goodOf
def zl_Mo_clock : List (Nat × List (Nat × zEnt)) := [(11, [(0, (.aload_n 0, 1, 0, 0, 0, .null, [], [])), (1, (.iload_n 1, 2, 1, 0, 0, .null, [], [])), (2, (.invokevirtual 169, 5, 148, 2, 0, .ref 10, [], [])), (5, (.ifCond .eq 15, 8, 20, 0, 0, .null, [], [])), (8, (.iload_n 2, 9, 2, 0, 0, .null, [], [])), (9, (.i2l, 10, 0, 0, 0, .null, [], [])), (10, (.lconst 0, 11, 0, 0, 0, .long 0, [], [])), (11, (.ldc2_w 254, 14, 0, 0, 0, .long 3, [], []))]),
  (27, [(14, (.invokestatic 65, 17, 130, 3, 0, .null, [], [])), (17, (.ifCond .ne 5, 20, 22, 0, 0, .null, [], [])), (20, (.iconst (-1), 21, 0, 0, 0, .int (-1), [], [])), (21, (.ireturn, 22, 0, 0, 0, .null, [], [])), (22, (.iload_n 2, 23, 2, 0, 0, .null, [], [])), (23, (.ifCond .ne 9, 26, 32, 0, 0, .null, [], [])), (26, (.aload_n 0, 27, 0, 0, 0, .null, [], [])), (27, (.iload_n 1, 28, 1, 0, 0, .null, [], []))]),
  (39, [(28, (.invokevirtual 153, 31, 150, 2, 0, .ref 10, [], [])), (31, (.ireturn, 32, 0, 0, 0, .null, [], [])), (32, (.iload_n 2, 33, 2, 0, 0, .null, [], [])), (33, (.iconst 3, 34, 0, 0, 0, .int 3, [], [])), (34, (.if_icmp .ge 19, 37, 53, 0, 0, .null, [], [])), (37, (.aload_n 0, 38, 0, 0, 0, .null, [], [])), (38, (.iload_n 1, 39, 1, 0, 0, .null, [], [])), (39, (.iload_n 2, 40, 2, 0, 0, .null, [], []))]),
  (53, [(40, (.iconst 1, 41, 0, 0, 0, .int 1, [], [])), (41, (.if_icmp .ne 7, 44, 48, 0, 0, .null, [], [])), (44, (.iconst 1, 45, 0, 0, 0, .int 1, [], [])), (45, (.goto 4, 48, 49, 0, 0, .null, [], [])), (48, (.iconst 0, 49, 0, 0, 0, .int 0, [], [])), (49, (.invokevirtual 256, 52, 174, 3, 0, .ref 10, [], [])), (52, (.ireturn, 53, 0, 0, 0, .null, [], [])), (53, (.aload_n 0, 54, 0, 0, 0, .null, [], []))]),
  (62, [(54, (.invokevirtual 241, 57, 167, 1, 9, .ref 10, [], [])), (57, (.aload_n 0, 58, 0, 0, 0, .null, [], [])), (58, (.iload_n 1, 59, 1, 0, 0, .null, [], [])), (59, (.invokevirtual 251, 62, 171, 2, 0, .ref 10, [], [])), (62, (.ireturn, 63, 0, 0, 0, .null, [], []))])]
def zc_Mo_clock : zCd := zFd zl_Mo_clock
def zl_Mo_cost : List (Nat × List (Nat × zEnt)) := [(13, [(0, (.aload_n 0, 1, 0, 0, 0, .null, [], [])), (1, (.iload_n 1, 2, 1, 0, 0, .null, [], [])), (2, (.invokevirtual 169, 5, 148, 2, 0, .ref 10, [], [])), (5, (.ifCond .eq 11, 8, 16, 0, 0, .null, [], [])), (8, (.aload_n 0, 9, 0, 0, 0, .null, [], [])), (9, (.iload_n 2, 10, 2, 0, 0, .null, [], [])), (10, (.invokevirtual 169, 13, 148, 2, 0, .ref 10, [], [])), (13, (.ifCond .ne 5, 16, 18, 0, 0, .null, [], []))]),
  (27, [(16, (.iconst (-1), 17, 0, 0, 0, .int (-1), [], [])), (17, (.ireturn, 18, 0, 0, 0, .null, [], [])), (18, (.aload_n 0, 19, 0, 0, 0, .null, [], [])), (19, (.invokevirtual 241, 22, 167, 1, 9, .ref 10, [], [])), (22, (.aload_n 0, 23, 0, 0, 0, .null, [], [])), (23, (.iload_n 2, 24, 2, 0, 0, .null, [], [])), (24, (.invokevirtual 244, 27, 169, 2, 9, .ref 10, [], [])), (27, (.aload_n 0, 28, 0, 0, 0, .null, [], []))]),
  (43, [(28, (.getfield 35, 31, 10, 26, 2, .null, [], [])), (31, (.iload_n 1, 32, 1, 0, 0, .null, [], [])), (32, (.iaload, 33, 0, 0, 0, .null, [], [])), (33, (.ldc 237, 35, 0, 0, 0, .int 1000000000, [], [])), (35, (.if_icmp .ne 8, 38, 43, 0, 0, .null, [], [])), (38, (.bipush (-4), 40, 0, 0, 0, .int (-4), [], [])), (40, (.goto 9, 43, 49, 0, 0, .null, [], [])), (43, (.aload_n 0, 44, 0, 0, 0, .null, [], []))]),
  (49, [(44, (.getfield 35, 47, 10, 26, 2, .null, [], [])), (47, (.iload_n 1, 48, 1, 0, 0, .null, [], [])), (48, (.iaload, 49, 0, 0, 0, .null, [], [])), (49, (.ireturn, 50, 0, 0, 0, .null, [], []))])]
def zc_Mo_cost : zCd := zFd zl_Mo_cost
def zl_Mo_chain : List (Nat × List (Nat × zEnt)) := [(13, [(0, (.aload_n 0, 1, 0, 0, 0, .null, [], [])), (1, (.iload_n 1, 2, 1, 0, 0, .null, [], [])), (2, (.invokevirtual 169, 5, 148, 2, 0, .ref 10, [], [])), (5, (.ifCond .eq 15, 8, 20, 0, 0, .null, [], [])), (8, (.aload_n 0, 9, 0, 0, 0, .null, [], [])), (9, (.iload_n 2, 10, 2, 0, 0, .null, [], [])), (10, (.invokevirtual 169, 13, 148, 2, 0, .ref 10, [], [])), (13, (.ifCond .eq 7, 16, 20, 0, 0, .null, [], []))]),
  (25, [(16, (.iload_n 3, 17, 3, 0, 0, .null, [], [])), (17, (.ifCond .ge 5, 20, 22, 0, 0, .null, [], [])), (20, (.iconst (-1), 21, 0, 0, 0, .int (-1), [], [])), (21, (.ireturn, 22, 0, 0, 0, .null, [], [])), (22, (.aload_n 0, 23, 0, 0, 0, .null, [], [])), (23, (.iload_n 1, 24, 1, 0, 0, .null, [], [])), (24, (.iload_n 2, 25, 2, 0, 0, .null, [], [])), (25, (.invokevirtual 260, 28, 170, 3, 9, .ref 10, [], []))]),
  (41, [(28, (.iload_n 3, 29, 3, 0, 0, .null, [], [])), (29, (.aload_n 0, 30, 0, 0, 0, .null, [], [])), (30, (.getfield 248, 33, 10, 29, 0, .null, [], [])), (33, (.if_icmp .ge 12, 36, 45, 0, 0, .null, [], [])), (36, (.aload_n 0, 37, 0, 0, 0, .null, [], [])), (37, (.getfield 41, 40, 10, 28, 2, .null, [], [])), (40, (.iload_n 3, 41, 3, 0, 0, .null, [], [])), (41, (.iaload, 42, 0, 0, 0, .null, [], []))]),
  (47, [(42, (.goto 5, 45, 47, 0, 0, .null, [], [])), (45, (.bipush (-4), 47, 0, 0, 0, .int (-4), [], [])), (47, (.ireturn, 48, 0, 0, 0, .null, [], []))])]
def zc_Mo_chain : zCd := zFd zl_Mo_chain
def zl_Mo_times : List (Nat × List (Nat × zEnt)) := [(10, [(0, (.lload_n 1, 1, 1, 0, 0, .null, [], [])), (1, (.lload_n 3, 2, 3, 0, 0, .null, [], [])), (2, (.lmul, 3, 0, 0, 0, .null, [], [])), (3, (.lstore 5, 5, 5, 0, 0, .null, [], [])), (5, (.aload_n 0, 6, 0, 0, 0, .null, [], [])), (6, (.aload_n 0, 7, 0, 0, 0, .null, [], [])), (7, (.getfield 263, 10, 10, 31, 0, .null, [], [])), (10, (.ifCond .ne 34, 13, 44, 0, 0, .null, [], []))]),
  (23, [(13, (.lload_n 1, 14, 1, 0, 0, .null, [], [])), (14, (.lconst 0, 15, 0, 0, 0, .long 0, [], [])), (15, (.lcmp, 16, 0, 0, 0, .null, [], [])), (16, (.ifCond .eq 32, 19, 48, 0, 0, .null, [], [])), (19, (.lload 5, 21, 5, 0, 0, .null, [], [])), (21, (.lload_n 1, 22, 1, 0, 0, .null, [], [])), (22, (.ldiv, 23, 0, 0, 0, .null, [], [])), (23, (.lload_n 3, 24, 3, 0, 0, .null, [], []))]),
  (37, [(24, (.lcmp, 25, 0, 0, 0, .null, [], [])), (25, (.ifCond .ne 19, 28, 44, 0, 0, .null, [], [])), (28, (.lload_n 1, 29, 1, 0, 0, .null, [], [])), (29, (.ldc2_w 191, 32, 0, 0, 0, .long (-1), [], [])), (32, (.lcmp, 33, 0, 0, 0, .null, [], [])), (33, (.ifCond .ne 15, 36, 48, 0, 0, .null, [], [])), (36, (.lload_n 3, 37, 3, 0, 0, .null, [], [])), (37, (.ldc2_w 266, 40, 0, 0, 0, .long (-9223372036854775808), [], []))]),
  (54, [(40, (.lcmp, 41, 0, 0, 0, .null, [], [])), (41, (.ifCond .ne 7, 44, 48, 0, 0, .null, [], [])), (44, (.iconst 1, 45, 0, 0, 0, .int 1, [], [])), (45, (.goto 4, 48, 49, 0, 0, .null, [], [])), (48, (.iconst 0, 49, 0, 0, 0, .int 0, [], [])), (49, (.putfield 263, 52, 10, 31, 3, .null, [], [])), (52, (.lload 5, 54, 5, 0, 0, .null, [], [])), (54, (.lreturn, 55, 0, 0, 0, .null, [], []))])]
def zc_Mo_times : zCd := zFd zl_Mo_times
def zl_Mo_plus : List (Nat × List (Nat × zEnt)) := [(10, [(0, (.lload_n 1, 1, 1, 0, 0, .null, [], [])), (1, (.lload_n 3, 2, 3, 0, 0, .null, [], [])), (2, (.ladd, 3, 0, 0, 0, .null, [], [])), (3, (.lstore 5, 5, 5, 0, 0, .null, [], [])), (5, (.aload_n 0, 6, 0, 0, 0, .null, [], [])), (6, (.aload_n 0, 7, 0, 0, 0, .null, [], [])), (7, (.getfield 263, 10, 10, 31, 0, .null, [], [])), (10, (.ifCond .ne 17, 13, 27, 0, 0, .null, [], []))]),
  (22, [(13, (.lload_n 1, 14, 1, 0, 0, .null, [], [])), (14, (.lload 5, 16, 5, 0, 0, .null, [], [])), (16, (.lxor, 17, 0, 0, 0, .null, [], [])), (17, (.lload_n 3, 18, 3, 0, 0, .null, [], [])), (18, (.lload 5, 20, 5, 0, 0, .null, [], [])), (20, (.lxor, 21, 0, 0, 0, .null, [], [])), (21, (.land, 22, 0, 0, 0, .null, [], [])), (22, (.lconst 0, 23, 0, 0, 0, .long 0, [], []))]),
  (37, [(23, (.lcmp, 24, 0, 0, 0, .null, [], [])), (24, (.ifCond .ge 7, 27, 31, 0, 0, .null, [], [])), (27, (.iconst 1, 28, 0, 0, 0, .int 1, [], [])), (28, (.goto 4, 31, 32, 0, 0, .null, [], [])), (31, (.iconst 0, 32, 0, 0, 0, .int 0, [], [])), (32, (.putfield 263, 35, 10, 31, 3, .null, [], [])), (35, (.lload 5, 37, 5, 0, 0, .null, [], [])), (37, (.lreturn, 38, 0, 0, 0, .null, [], []))])]
def zc_Mo_plus : zCd := zFd zl_Mo_plus
def zl_Mo_nearest : List (Nat × List (Nat × zEnt)) := [(8, [(0, (.lload_n 0, 1, 0, 0, 0, .null, [], [])), (1, (.lload_n 2, 2, 2, 0, 0, .null, [], [])), (2, (.ldiv, 3, 0, 0, 0, .null, [], [])), (3, (.lstore 4, 5, 4, 0, 0, .null, [], [])), (5, (.lload_n 0, 6, 0, 0, 0, .null, [], [])), (6, (.lload_n 2, 7, 2, 0, 0, .null, [], [])), (7, (.lrem, 8, 0, 0, 0, .null, [], [])), (8, (.lstore 6, 10, 6, 0, 0, .null, [], []))]),
  (21, [(10, (.lload 6, 12, 6, 0, 0, .null, [], [])), (12, (.lconst 0, 13, 0, 0, 0, .long 0, [], [])), (13, (.lcmp, 14, 0, 0, 0, .null, [], [])), (14, (.ifCond .ge 15, 17, 29, 0, 0, .null, [], [])), (17, (.lload 6, 19, 6, 0, 0, .null, [], [])), (19, (.lload_n 2, 20, 2, 0, 0, .null, [], [])), (20, (.ladd, 21, 0, 0, 0, .null, [], [])), (21, (.lstore 6, 23, 6, 0, 0, .null, [], []))]),
  (35, [(23, (.lload 4, 25, 4, 0, 0, .null, [], [])), (25, (.lconst 1, 26, 0, 0, 0, .long 1, [], [])), (26, (.lsub, 27, 0, 0, 0, .null, [], [])), (27, (.lstore 4, 29, 4, 0, 0, .null, [], [])), (29, (.ldc2_w 268, 32, 0, 0, 0, .long 2, [], [])), (32, (.lload 6, 34, 6, 0, 0, .null, [], [])), (34, (.lmul, 35, 0, 0, 0, .null, [], [])), (35, (.lload_n 2, 36, 2, 0, 0, .null, [], []))]),
  (49, [(36, (.lcmp, 37, 0, 0, 0, .null, [], [])), (37, (.ifCond .lt 10, 40, 47, 0, 0, .null, [], [])), (40, (.lload 4, 42, 4, 0, 0, .null, [], [])), (42, (.lconst 1, 43, 0, 0, 0, .long 1, [], [])), (43, (.ladd, 44, 0, 0, 0, .null, [], [])), (44, (.goto 5, 47, 49, 0, 0, .null, [], [])), (47, (.lload 4, 49, 4, 0, 0, .null, [], [])), (49, (.lreturn, 50, 0, 0, 0, .null, [], []))])]
def zc_Mo_nearest : zCd := zFd zl_Mo_nearest
def zl_Mo_takes : List (Nat × List (Nat × zEnt)) := [(9, [(0, (.aload_n 0, 1, 0, 0, 0, .null, [], [])), (1, (.iload_n 1, 2, 1, 0, 0, .null, [], [])), (2, (.iload_n 2, 3, 2, 0, 0, .null, [], [])), (3, (.invokevirtual 227, 6, 159, 3, 9, .ref 10, [], [])), (6, (.aload_n 0, 7, 0, 0, 0, .null, [1, 2, 3, 4, 5, 6], [])), (7, (.aload_n 0, 8, 0, 0, 0, .null, [], [])), (8, (.aload_n 0, 9, 0, 0, 0, .null, [], [])), (9, (.getfield 172, 12, 10, 15, 1, .null, [], []))]),
  (27, [(12, (.aload_n 0, 13, 0, 0, 0, .null, [], [])), (13, (.getfield 270, 16, 10, 32, 1, .null, [], [])), (16, (.invokevirtual 273, 19, 178, 3, 1, .ref 10, [], [])), (19, (.ldc2_w 276, 22, 0, 0, 0, .long (-256), [], [])), (22, (.aload_n 0, 23, 0, 0, 0, .null, [], [])), (23, (.getfield 176, 26, 10, 16, 1, .null, [], [])), (26, (.lmul, 27, 0, 0, 0, .null, [], [])), (27, (.invokevirtual 278, 30, 179, 3, 1, .ref 10, [], []))]),
  (41, [(30, (.lstore_n 3, 31, 3, 0, 0, .null, [], [])), (31, (.aload_n 0, 32, 0, 0, 0, .null, [], [])), (32, (.aload_n 0, 33, 0, 0, 0, .null, [], [])), (33, (.aload_n 0, 34, 0, 0, 0, .null, [], [])), (34, (.getfield 185, 37, 10, 19, 1, .null, [], [])), (37, (.lload_n 3, 38, 3, 0, 0, .null, [], [])), (38, (.invokevirtual 273, 41, 178, 3, 1, .ref 10, [], [])), (41, (.ldc2_w 217, 44, 0, 0, 0, .long 256, [], []))]),
  (57, [(44, (.aload_n 0, 45, 0, 0, 0, .null, [], [])), (45, (.getfield 179, 48, 10, 17, 1, .null, [], [])), (48, (.lmul, 49, 0, 0, 0, .null, [], [])), (49, (.aload_n 0, 50, 0, 0, 0, .null, [], [])), (50, (.getfield 182, 53, 10, 18, 1, .null, [], [])), (53, (.lmul, 54, 0, 0, 0, .null, [], [])), (54, (.invokevirtual 278, 57, 179, 3, 1, .ref 10, [], [])), (57, (.lstore 5, 59, 5, 0, 0, .null, [], []))]),
  (72, [(59, (.aload_n 0, 60, 0, 0, 0, .null, [], [])), (60, (.lload 5, 62, 5, 0, 0, .null, [], [])), (62, (.aload_n 0, 63, 0, 0, 0, .null, [], [])), (63, (.invokevirtual 213, 66, 156, 1, 1, .ref 10, [], [])), (66, (.invokestatic 281, 69, 180, 2, 1, .null, [], [])), (69, (.putfield 270, 72, 10, 32, 1, .null, [], [])), (72, (.return_, 73, 0, 0, 0, .null, [], []))])]
def zc_Mo_takes : zCd := zFd zl_Mo_takes
def zl_Mo_goes : List (Nat × List (Nat × zEnt)) := [(13, [(0, (.aload_n 0, 1, 0, 0, 0, .null, [], [])), (1, (.iload_n 1, 2, 1, 0, 0, .null, [], [])), (2, (.iload_n 2, 3, 2, 0, 0, .null, [], [])), (3, (.invokevirtual 260, 6, 170, 3, 9, .ref 10, [], [])), (6, (.aload_n 0, 7, 0, 0, 0, .null, [], [])), (7, (.getfield 248, 10, 10, 29, 0, .null, [], [])), (10, (.ifCond .ne 6, 13, 16, 0, 0, .null, [], [])), (13, (.bipush (-2), 15, 0, 0, 0, .int (-2), [], []))]),
  (24, [(15, (.ireturn, 16, 0, 0, 0, .null, [], [])), (16, (.aload_n 0, 17, 0, 0, 0, .null, [], [])), (17, (.iconst 0, 18, 0, 0, 0, .int 0, [], [])), (18, (.putfield 263, 21, 10, 31, 3, .null, [], [])), (21, (.iconst 0, 22, 0, 0, 0, .int 0, [], [])), (22, (.istore_n 3, 23, 3, 0, 0, .null, [], [])), (23, (.iload_n 3, 24, 3, 0, 0, .null, [1, 2], [])), (24, (.iconst 1, 25, 0, 0, 0, .int 1, [], []))]),
  (40, [(25, (.iadd, 26, 0, 0, 0, .null, [], [])), (26, (.aload_n 0, 27, 0, 0, 0, .null, [], [])), (27, (.getfield 248, 30, 10, 29, 0, .null, [], [])), (30, (.if_icmp .ge 34, 33, 64, 0, 0, .null, [], [])), (33, (.aload_n 0, 34, 0, 0, 0, .null, [], [])), (34, (.getfield 263, 37, 10, 31, 0, .null, [], [])), (37, (.ifCond .ne 27, 40, 64, 0, 0, .null, [], [])), (40, (.aload_n 0, 41, 0, 0, 0, .null, [], []))]),
  (52, [(41, (.aload_n 0, 42, 0, 0, 0, .null, [], [])), (42, (.getfield 41, 45, 10, 28, 2, .null, [], [])), (45, (.iload_n 3, 46, 3, 0, 0, .null, [], [])), (46, (.iaload, 47, 0, 0, 0, .null, [], [])), (47, (.aload_n 0, 48, 0, 0, 0, .null, [], [])), (48, (.getfield 41, 51, 10, 28, 2, .null, [], [])), (51, (.iload_n 3, 52, 3, 0, 0, .null, [], [])), (52, (.iconst 1, 53, 0, 0, 0, .int 1, [], []))]),
  (68, [(53, (.iadd, 54, 0, 0, 0, .null, [], [])), (54, (.iaload, 55, 0, 0, 0, .null, [], [])), (55, (.invokevirtual 284, 58, 181, 3, 9, .ref 10, [], [])), (58, (.iinc 3 1, 61, 3, 0, 0, .int 1, [], [])), (61, (.goto (-38), 64, 23, 0, 0, .null, [], [])), (64, (.aload_n 0, 65, 0, 0, 0, .null, [], [])), (65, (.getfield 263, 68, 10, 31, 0, .null, [], [])), (68, (.ifCond .eq 8, 71, 76, 0, 0, .null, [], []))]),
  (77, [(71, (.bipush (-3), 73, 0, 0, 0, .int (-3), [], [])), (73, (.goto 4, 76, 77, 0, 0, .null, [], [])), (76, (.iconst 0, 77, 0, 0, 0, .int 0, [], [])), (77, (.ireturn, 78, 0, 0, 0, .null, [], []))])]
def zc_Mo_goes : zCd := zFd zl_Mo_goes
def zl_Mo_reachesOne : List (Nat × List (Nat × zEnt)) := [(13, [(0, (.aload_n 0, 1, 0, 0, 0, .null, [], [])), (1, (.invokevirtual 241, 4, 167, 1, 9, .ref 10, [], [])), (4, (.aload_n 0, 5, 0, 0, 0, .null, [], [])), (5, (.iload_n 2, 6, 2, 0, 0, .null, [], [])), (6, (.invokevirtual 244, 9, 169, 2, 9, .ref 10, [], [])), (9, (.aload_n 0, 10, 0, 0, 0, .null, [], [])), (10, (.getfield 35, 13, 10, 26, 2, .null, [], [])), (13, (.iload_n 1, 14, 1, 0, 0, .null, [], []))]),
  (25, [(14, (.iaload, 15, 0, 0, 0, .null, [], [])), (15, (.ldc 237, 17, 0, 0, 0, .int 1000000000, [], [])), (17, (.if_icmp .eq 7, 20, 24, 0, 0, .null, [], [])), (20, (.iconst 1, 21, 0, 0, 0, .int 1, [], [])), (21, (.goto 4, 24, 25, 0, 0, .null, [], [])), (24, (.iconst 0, 25, 0, 0, 0, .int 0, [], [])), (25, (.ireturn, 26, 0, 0, 3, .null, [], []))])]
def zc_Mo_reachesOne : zCd := zFd zl_Mo_reachesOne
def zl_Mo_taken : List (Nat × List (Nat × zEnt)) := [(13, [(0, (.aload_n 0, 1, 0, 0, 0, .null, [], [])), (1, (.iconst 0, 2, 0, 0, 0, .int 0, [], [])), (2, (.putfield 287, 5, 10, 30, 0, .null, [], [])), (5, (.aload_n 0, 6, 0, 0, 0, .null, [], [])), (6, (.iload_n 1, 7, 1, 0, 0, .null, [], [])), (7, (.invokevirtual 169, 10, 148, 2, 0, .ref 10, [], [])), (10, (.ifCond .eq 11, 13, 21, 0, 0, .null, [], [])), (13, (.aload_n 0, 14, 0, 0, 0, .null, [], []))]),
  (27, [(14, (.iload_n 2, 15, 2, 0, 0, .null, [], [])), (15, (.invokevirtual 169, 18, 148, 2, 0, .ref 10, [], [])), (18, (.ifCond .ne 7, 21, 25, 0, 0, .null, [], [])), (21, (.ldc2_w 191, 24, 0, 0, 0, .long (-1), [], [])), (24, (.lreturn, 25, 0, 0, 0, .null, [], [])), (25, (.aload_n 0, 26, 0, 0, 0, .null, [], [])), (26, (.lload_n 3, 27, 3, 0, 0, .null, [], [])), (27, (.putfield 270, 30, 10, 32, 1, .null, [], []))]),
  (43, [(30, (.aload_n 0, 31, 0, 0, 0, .null, [], [])), (31, (.iload_n 1, 32, 1, 0, 0, .null, [], [])), (32, (.iload_n 2, 33, 2, 0, 0, .null, [], [])), (33, (.invokevirtual 290, 36, 182, 3, 0, .ref 10, [], [])), (36, (.istore 5, 38, 5, 0, 0, .null, [], [])), (38, (.iload 5, 40, 5, 0, 0, .null, [], [])), (40, (.ifCond .eq 7, 43, 47, 0, 0, .null, [], [])), (43, (.iload 5, 45, 5, 0, 0, .null, [], []))]),
  (56, [(45, (.i2l, 46, 0, 0, 0, .null, [], [])), (46, (.lreturn, 47, 0, 0, 0, .null, [], [])), (47, (.aload_n 0, 48, 0, 0, 0, .null, [], [])), (48, (.iconst 1, 49, 0, 0, 0, .int 1, [], [])), (49, (.putfield 287, 52, 10, 30, 0, .null, [], [])), (52, (.aload_n 0, 53, 0, 0, 0, .null, [], [])), (53, (.getfield 270, 56, 10, 32, 1, .null, [], [])), (56, (.lreturn, 57, 0, 0, 0, .null, [], []))])]
def zc_Mo_taken : zCd := zFd zl_Mo_taken
def zl_Mo_ok : List (Nat × List (Nat × zEnt)) := [(4, [(0, (.aload_n 0, 1, 0, 0, 0, .null, [], [])), (1, (.getfield 287, 4, 10, 30, 0, .null, [], [])), (4, (.ireturn, 5, 0, 0, 0, .null, [], []))])]
def zc_Mo_ok : zCd := zFd zl_Mo_ok
def zl_Mo_there : List (Nat × List (Nat × zEnt)) := [(13, [(0, (.aload_n 0, 1, 0, 0, 0, .null, [], [])), (1, (.iconst 0, 2, 0, 0, 0, .int 0, [], [])), (2, (.putfield 287, 5, 10, 30, 0, .null, [], [])), (5, (.aload_n 0, 6, 0, 0, 0, .null, [], [])), (6, (.iload_n 1, 7, 1, 0, 0, .null, [], [])), (7, (.invokevirtual 169, 10, 148, 2, 0, .ref 10, [], [])), (10, (.ifCond .eq 11, 13, 21, 0, 0, .null, [], [])), (13, (.aload_n 0, 14, 0, 0, 0, .null, [], []))]),
  (27, [(14, (.iload_n 2, 15, 2, 0, 0, .null, [], [])), (15, (.invokevirtual 169, 18, 148, 2, 0, .ref 10, [], [])), (18, (.ifCond .ne 7, 21, 25, 0, 0, .null, [], [])), (21, (.ldc2_w 191, 24, 0, 0, 0, .long (-1), [], [])), (24, (.lreturn, 25, 0, 0, 0, .null, [], [])), (25, (.aload_n 0, 26, 0, 0, 0, .null, [], [])), (26, (.iload_n 1, 27, 1, 0, 0, .null, [], [])), (27, (.iload_n 2, 28, 2, 0, 0, .null, [], []))]),
  (43, [(28, (.invokevirtual 293, 31, 183, 3, 0, .ref 10, [], [])), (31, (.ifCond .eq 12, 34, 43, 0, 0, .null, [], [])), (34, (.aload_n 0, 35, 0, 0, 0, .null, [], [])), (35, (.iload_n 2, 36, 2, 0, 0, .null, [], [])), (36, (.iload_n 1, 37, 1, 0, 0, .null, [], [])), (37, (.invokevirtual 293, 40, 183, 3, 0, .ref 10, [], [])), (40, (.ifCond .ne 7, 43, 47, 0, 0, .null, [], [])), (43, (.ldc2_w 296, 46, 0, 0, 0, .long (-2), [], []))]),
  (55, [(46, (.lreturn, 47, 0, 0, 0, .null, [], [])), (47, (.aload_n 0, 48, 0, 0, 0, .null, [4, 5, 6], [])), (48, (.lload_n 3, 49, 3, 0, 0, .null, [], [])), (49, (.putfield 270, 52, 10, 32, 1, .null, [], [])), (52, (.aload_n 0, 53, 0, 0, 0, .null, [], [])), (53, (.iload_n 1, 54, 1, 0, 0, .null, [], [])), (54, (.iload_n 2, 55, 2, 0, 0, .null, [], [])), (55, (.invokevirtual 290, 58, 182, 3, 0, .ref 10, [], []))]),
  (73, [(58, (.ifCond .ne 12, 61, 70, 0, 0, .null, [], [])), (61, (.aload_n 0, 62, 0, 0, 0, .null, [], [])), (62, (.iload_n 2, 63, 2, 0, 0, .null, [], [])), (63, (.iload_n 1, 64, 1, 0, 0, .null, [], [])), (64, (.invokevirtual 290, 67, 182, 3, 0, .ref 10, [], [])), (67, (.ifCond .eq 7, 70, 74, 0, 0, .null, [], [])), (70, (.ldc2_w 298, 73, 0, 0, 0, .long (-3), [], [])), (73, (.lreturn, 74, 0, 0, 0, .null, [], []))]),
  (86, [(74, (.aload_n 0, 75, 0, 0, 0, .null, [], [])), (75, (.getfield 270, 78, 10, 32, 1, .null, [], [])), (78, (.lload_n 3, 79, 3, 0, 0, .null, [], [])), (79, (.lsub, 80, 0, 0, 0, .null, [], [])), (80, (.lstore 5, 82, 5, 0, 0, .null, [], [])), (82, (.aload_n 0, 83, 0, 0, 0, .null, [], [])), (83, (.getfield 270, 86, 10, 32, 1, .null, [], [])), (86, (.lload_n 3, 87, 3, 0, 0, .null, [], []))]),
  (97, [(87, (.lxor, 88, 0, 0, 0, .null, [], [])), (88, (.aload_n 0, 89, 0, 0, 0, .null, [], [])), (89, (.getfield 270, 92, 10, 32, 1, .null, [], [])), (92, (.lload 5, 94, 5, 0, 0, .null, [], [])), (94, (.lxor, 95, 0, 0, 0, .null, [], [])), (95, (.land, 96, 0, 0, 0, .null, [], [])), (96, (.lconst 0, 97, 0, 0, 0, .long 0, [], [])), (97, (.lcmp, 98, 0, 0, 0, .null, [], []))]),
  (112, [(98, (.ifCond .ge 7, 101, 105, 0, 0, .null, [], [])), (101, (.ldc2_w 298, 104, 0, 0, 0, .long (-3), [], [])), (104, (.lreturn, 105, 0, 0, 0, .null, [], [])), (105, (.aload_n 0, 106, 0, 0, 0, .null, [], [])), (106, (.iconst 1, 107, 0, 0, 0, .int 1, [], [])), (107, (.putfield 287, 110, 10, 30, 0, .null, [], [])), (110, (.lload 5, 112, 5, 0, 0, .null, [], [])), (112, (.lreturn, 113, 0, 0, 0, .null, [], []))])]
def zc_Mo_there : zCd := zFd zl_Mo_there
def zl_Mo_hear : List (Nat × List (Nat × zEnt)) := [(15, [(0, (.iload_n 1, 1, 1, 0, 0, .null, [], [])), (1, (.invokestatic 165, 4, 149, 1, 0, .null, [], [])), (4, (.ifCond .eq 23, 7, 27, 0, 0, .null, [], [])), (7, (.aload_n 0, 8, 0, 0, 0, .null, [], [])), (8, (.iload_n 2, 9, 2, 0, 0, .null, [], [])), (9, (.invokevirtual 169, 12, 148, 2, 0, .ref 10, [], [])), (12, (.ifCond .eq 15, 15, 27, 0, 0, .null, [], [])), (15, (.iload_n 3, 16, 3, 0, 0, .null, [], []))]),
  (29, [(16, (.i2l, 17, 0, 0, 0, .null, [], [])), (17, (.lconst 0, 18, 0, 0, 0, .long 0, [], [])), (18, (.ldc2_w 300, 21, 0, 0, 0, .long 9999, [], [])), (21, (.invokestatic 65, 24, 130, 3, 0, .null, [], [])), (24, (.ifCond .ne 5, 27, 29, 0, 0, .null, [], [])), (27, (.iconst (-1), 28, 0, 0, 0, .int (-1), [], [])), (28, (.ireturn, 29, 0, 0, 0, .null, [], [])), (29, (.aload_n 0, 30, 0, 0, 0, .null, [], []))]),
  (42, [(30, (.getfield 7, 33, 10, 0, 2, .null, [], [])), (33, (.iload_n 1, 34, 1, 0, 0, .null, [], [])), (34, (.iload_n 2, 35, 2, 0, 0, .null, [], [])), (35, (.invokestatic 121, 38, 133, 2, 0, .null, [], [])), (38, (.iaload, 39, 0, 0, 0, .null, [], [])), (39, (.istore 4, 41, 4, 0, 0, .null, [], [])), (41, (.aload_n 0, 42, 0, 0, 0, .null, [], [])), (42, (.getfield 7, 45, 10, 0, 2, .null, [], []))]),
  (54, [(45, (.iload_n 1, 46, 1, 0, 0, .null, [], [])), (46, (.iload_n 2, 47, 2, 0, 0, .null, [], [])), (47, (.invokestatic 121, 50, 133, 2, 0, .null, [], [])), (50, (.iload_n 3, 51, 3, 0, 0, .null, [], [])), (51, (.iastore, 52, 0, 0, 0, .null, [], [])), (52, (.iload 4, 54, 4, 0, 0, .null, [], [])), (54, (.ireturn, 55, 0, 0, 0, .null, [], []))])]
def zc_Mo_hear : zCd := zFd zl_Mo_hear
def zl_Mo_lose : List (Nat × List (Nat × zEnt)) := [(15, [(0, (.iload_n 1, 1, 1, 0, 0, .null, [], [])), (1, (.invokestatic 165, 4, 149, 1, 0, .null, [], [])), (4, (.ifCond .eq 11, 7, 15, 0, 0, .null, [], [])), (7, (.aload_n 0, 8, 0, 0, 0, .null, [], [])), (8, (.iload_n 2, 9, 2, 0, 0, .null, [], [])), (9, (.invokevirtual 169, 12, 148, 2, 0, .ref 10, [], [])), (12, (.ifCond .ne 5, 15, 17, 0, 0, .null, [], [])), (15, (.iconst (-1), 16, 0, 0, 0, .int (-1), [], []))]),
  (27, [(16, (.ireturn, 17, 0, 0, 0, .null, [], [])), (17, (.aload_n 0, 18, 0, 0, 0, .null, [], [])), (18, (.getfield 7, 21, 10, 0, 2, .null, [], [])), (21, (.iload_n 1, 22, 1, 0, 0, .null, [], [])), (22, (.iload_n 2, 23, 2, 0, 0, .null, [], [])), (23, (.invokestatic 121, 26, 133, 2, 0, .null, [], [])), (26, (.iaload, 27, 0, 0, 0, .null, [], [])), (27, (.istore_n 3, 28, 3, 0, 0, .null, [], []))]),
  (40, [(28, (.aload_n 0, 29, 0, 0, 0, .null, [], [])), (29, (.getfield 7, 32, 10, 0, 2, .null, [], [])), (32, (.iload_n 1, 33, 1, 0, 0, .null, [], [])), (33, (.iload_n 2, 34, 2, 0, 0, .null, [], [])), (34, (.invokestatic 121, 37, 133, 2, 0, .null, [], [])), (37, (.bipush (-4), 39, 0, 0, 0, .int (-4), [], [])), (39, (.iastore, 40, 0, 0, 0, .null, [], [])), (40, (.iload_n 3, 41, 3, 0, 0, .null, [], []))]),
  (41, [(41, (.ireturn, 42, 0, 0, 0, .null, [], []))])]
def zc_Mo_lose : zCd := zFd zl_Mo_lose
def zl_Mo_shift : List (Nat × List (Nat × zEnt)) := [(16, [(0, (.aload_n 0, 1, 0, 0, 0, .null, [], [])), (1, (.iload_n 1, 2, 1, 0, 0, .null, [], [])), (2, (.invokevirtual 169, 5, 148, 2, 0, .ref 10, [], [])), (5, (.ifCond .eq 17, 8, 22, 0, 0, .null, [], [])), (8, (.iload_n 2, 9, 2, 0, 0, .null, [], [])), (9, (.i2l, 10, 0, 0, 0, .null, [], [])), (10, (.ldc2_w 302, 13, 0, 0, 0, .long (-9999), [], [])), (13, (.ldc2_w 300, 16, 0, 0, 0, .long 9999, [], [])), (16, (.invokestatic 65, 19, 130, 3, 0, .null, [], []))]),
  (31, [(19, (.ifCond .ne 5, 22, 24, 0, 0, .null, [], [])), (22, (.iconst (-1), 23, 0, 0, 0, .int (-1), [], [])), (23, (.ireturn, 24, 0, 0, 0, .null, [], [])), (24, (.iconst 1, 25, 0, 0, 0, .int 1, [], [])), (25, (.istore_n 3, 26, 3, 0, 0, .null, [], [])), (26, (.iconst 0, 27, 0, 0, 0, .int 0, [], [])), (27, (.istore 4, 29, 4, 0, 0, .null, [], [])), (29, (.iload 4, 31, 4, 0, 0, .null, [], [])), (31, (.bipush 16, 33, 0, 0, 0, .int 16, [], []))]),
  (50, [(33, (.if_icmp .ge 59, 36, 92, 0, 0, .null, [], [])), (36, (.iload_n 3, 37, 3, 0, 0, .null, [], [])), (37, (.ifCond .eq 47, 40, 84, 0, 0, .null, [], [])), (40, (.aload_n 0, 41, 0, 0, 0, .null, [], [])), (41, (.getfield 7, 44, 10, 0, 2, .null, [], [])), (44, (.iload 4, 46, 4, 0, 0, .null, [], [])), (46, (.iload_n 1, 47, 1, 0, 0, .null, [], [])), (47, (.invokestatic 121, 50, 133, 2, 0, .null, [], [])), (50, (.iaload, 51, 0, 0, 0, .null, [], []))]),
  (67, [(51, (.bipush (-4), 53, 0, 0, 0, .int (-4), [], [])), (53, (.if_icmp .eq 27, 56, 80, 0, 0, .null, [], [])), (56, (.aload_n 0, 57, 0, 0, 0, .null, [], [])), (57, (.getfield 7, 60, 10, 0, 2, .null, [], [])), (60, (.iload 4, 62, 4, 0, 0, .null, [], [])), (62, (.iload_n 1, 63, 1, 0, 0, .null, [], [])), (63, (.invokestatic 121, 66, 133, 2, 0, .null, [], [])), (66, (.iaload, 67, 0, 0, 0, .null, [], [])), (67, (.iload_n 2, 68, 2, 0, 0, .null, [], []))]),
  (84, [(68, (.iadd, 69, 0, 0, 0, .null, [], [])), (69, (.i2l, 70, 0, 0, 0, .null, [], [])), (70, (.lconst 0, 71, 0, 0, 0, .long 0, [], [])), (71, (.ldc2_w 300, 74, 0, 0, 0, .long 9999, [], [])), (74, (.invokestatic 65, 77, 130, 3, 0, .null, [], [])), (77, (.ifCond .eq 7, 80, 84, 0, 0, .null, [], [])), (80, (.iconst 1, 81, 0, 0, 0, .int 1, [], [])), (81, (.goto 4, 84, 85, 0, 0, .null, [], [])), (84, (.iconst 0, 85, 0, 0, 0, .int 0, [], []))]),
  (100, [(85, (.istore_n 3, 86, 3, 0, 0, .null, [], [])), (86, (.iinc 4 1, 89, 4, 0, 0, .int 1, [], [])), (89, (.goto (-60), 92, 29, 0, 0, .null, [], [])), (92, (.iload_n 3, 93, 3, 0, 0, .null, [], [])), (93, (.ifCond .ne 6, 96, 99, 0, 0, .null, [], [])), (96, (.bipush (-2), 98, 0, 0, 0, .int (-2), [], [])), (98, (.ireturn, 99, 0, 0, 0, .null, [], [])), (99, (.iconst 0, 100, 0, 0, 0, .int 0, [], [])), (100, (.istore 4, 102, 4, 0, 0, .null, [], []))]),
  (119, [(102, (.iload 4, 104, 4, 0, 0, .null, [3], [])), (104, (.bipush 16, 106, 0, 0, 0, .int 16, [], [])), (106, (.if_icmp .ge 44, 109, 150, 0, 0, .null, [], [])), (109, (.aload_n 0, 110, 0, 0, 0, .null, [], [])), (110, (.getfield 7, 113, 10, 0, 2, .null, [], [])), (113, (.iload 4, 115, 4, 0, 0, .null, [], [])), (115, (.iload_n 1, 116, 1, 0, 0, .null, [], [])), (116, (.invokestatic 121, 119, 133, 2, 0, .null, [], [])), (119, (.dup2, 120, 0, 0, 0, .null, [], []))]),
  (134, [(120, (.iaload, 121, 0, 0, 0, .null, [], [])), (121, (.aload_n 0, 122, 0, 0, 0, .null, [], [])), (122, (.getfield 7, 125, 10, 0, 2, .null, [], [])), (125, (.iload 4, 127, 4, 0, 0, .null, [], [])), (127, (.iload_n 1, 128, 1, 0, 0, .null, [], [])), (128, (.invokestatic 121, 131, 133, 2, 0, .null, [], [])), (131, (.iaload, 132, 0, 0, 0, .null, [], [])), (132, (.bipush (-4), 134, 0, 0, 0, .int (-4), [], [])), (134, (.if_icmp .ne 7, 137, 141, 0, 0, .null, [], []))]),
  (151, [(137, (.iconst 0, 138, 0, 0, 0, .int 0, [], [])), (138, (.goto 4, 141, 142, 0, 0, .null, [], [])), (141, (.iload_n 2, 142, 2, 0, 0, .null, [], [])), (142, (.iadd, 143, 0, 0, 0, .null, [], [])), (143, (.iastore, 144, 0, 0, 0, .null, [], [])), (144, (.iinc 4 1, 147, 4, 0, 0, .int 1, [], [])), (147, (.goto (-45), 150, 102, 0, 0, .null, [], [])), (150, (.aload_n 0, 151, 0, 0, 0, .null, [], [])), (151, (.iload_n 1, 152, 1, 0, 0, .null, [], []))]),
  (155, [(152, (.invokevirtual 153, 155, 150, 2, 0, .ref 10, [], [])), (155, (.ireturn, 156, 0, 0, 0, .null, [], []))])]
def zc_Mo_shift : zCd := zFd zl_Mo_shift
def zl_Mo_set : List (Nat × List (Nat × zEnt)) := [(11, [(0, (.iload_n 1, 1, 1, 0, 0, .null, [], [])), (1, (.iconst 2, 2, 0, 0, 0, .int 2, [], [])), (2, (.if_icmp .ne 18, 5, 20, 0, 0, .null, [], [])), (5, (.iload_n 2, 6, 2, 0, 0, .null, [], [])), (6, (.i2l, 7, 0, 0, 0, .null, [], [])), (7, (.lconst 0, 8, 0, 0, 0, .long 0, [], [])), (8, (.ldc2_w 304, 11, 0, 0, 0, .long 99, [], [])), (11, (.invokestatic 65, 14, 130, 3, 0, .null, [], []))]),
  (27, [(14, (.ifCond .ne 27, 17, 41, 0, 0, .null, [], [])), (17, (.goto 22, 20, 39, 0, 0, .null, [], [])), (20, (.iload_n 1, 21, 1, 0, 0, .null, [], [])), (21, (.iconst 3, 22, 0, 0, 0, .int 3, [], [])), (22, (.if_icmp .ne 17, 25, 39, 0, 0, .null, [], [])), (25, (.iload_n 2, 26, 2, 0, 0, .null, [], [])), (26, (.i2l, 27, 0, 0, 0, .null, [], [])), (27, (.ldc2_w 268, 30, 0, 0, 0, .long 2, [], []))]),
  (45, [(30, (.ldc2_w 306, 33, 0, 0, 0, .long 6, [], [])), (33, (.invokestatic 65, 36, 130, 3, 0, .null, [], [])), (36, (.ifCond .ne 5, 39, 41, 0, 0, .null, [], [])), (39, (.iconst (-1), 40, 0, 0, 0, .int (-1), [], [])), (40, (.ireturn, 41, 0, 0, 0, .null, [], [])), (41, (.aload_n 0, 42, 0, 0, 0, .null, [3], [])), (42, (.getfield 7, 45, 10, 0, 2, .null, [], [])), (45, (.iload_n 1, 46, 1, 0, 0, .null, [], []))]),
  (55, [(46, (.iconst 1, 47, 0, 0, 0, .int 1, [], [])), (47, (.isub, 48, 0, 0, 0, .null, [], [])), (48, (.iaload, 49, 0, 0, 0, .null, [], [])), (49, (.istore_n 3, 50, 3, 0, 0, .null, [], [])), (50, (.aload_n 0, 51, 0, 0, 0, .null, [], [])), (51, (.getfield 7, 54, 10, 0, 2, .null, [], [])), (54, (.iload_n 1, 55, 1, 0, 0, .null, [], [])), (55, (.iconst 1, 56, 0, 0, 0, .int 1, [], []))]),
  (60, [(56, (.isub, 57, 0, 0, 0, .null, [], [])), (57, (.iload_n 2, 58, 2, 0, 0, .null, [], [])), (58, (.iastore, 59, 0, 0, 0, .null, [], [])), (59, (.iload_n 3, 60, 3, 0, 0, .null, [], [])), (60, (.ireturn, 61, 0, 0, 0, .null, [], []))])]
def zc_Mo_set : zCd := zFd zl_Mo_set
def zl_Mo_gets : List (Nat × List (Nat × zEnt)) := [(13, [(0, (.aload_n 0, 1, 0, 0, 0, .null, [], [])), (1, (.aload_n 0, 2, 0, 0, 0, .null, [], [])), (2, (.getfield 308, 5, 10, 33, 0, .null, [], [])), (5, (.ldc_w 311, 8, 0, 0, 0, .int 1103515245, [], [])), (8, (.imul, 9, 0, 0, 0, .null, [], [])), (9, (.sipush 12345, 12, 0, 0, 0, .int 12345, [], [])), (12, (.iadd, 13, 0, 0, 0, .null, [], [])), (13, (.putfield 308, 16, 10, 33, 0, .null, [], []))]),
  (27, [(16, (.aload_n 0, 17, 0, 0, 0, .null, [], [])), (17, (.getfield 308, 20, 10, 33, 0, .null, [], [])), (20, (.bipush 16, 22, 0, 0, 0, .int 16, [], [])), (22, (.ishr, 23, 0, 0, 0, .null, [], [])), (23, (.sipush 32767, 26, 0, 0, 0, .int 32767, [], [])), (26, (.iand, 27, 0, 0, 0, .null, [], [])), (27, (.ireturn, 28, 0, 0, 0, .null, [], []))])]
def zc_Mo_gets : zCd := zFd zl_Mo_gets
def zl_Mo_draw : List (Nat × List (Nat × zEnt)) := [(15, [(0, (.iload_n 2, 1, 2, 0, 0, .null, [], [])), (1, (.i2l, 2, 0, 0, 0, .null, [], [])), (2, (.lconst 1, 3, 0, 0, 0, .long 1, [], [])), (3, (.ldc2_w 312, 6, 0, 0, 0, .long 7, [], [])), (6, (.invokestatic 65, 9, 130, 3, 0, .null, [], [])), (9, (.ifCond .ne 5, 12, 14, 0, 0, .null, [], [])), (12, (.iconst (-1), 13, 0, 0, 0, .int (-1), [], [])), (13, (.ireturn, 14, 0, 0, 0, .null, [], [])), (14, (.aload_n 0, 15, 0, 0, 0, .null, [], [])), (15, (.iload_n 1, 16, 1, 0, 0, .null, [], []))]),
  (33, [(16, (.putfield 308, 19, 10, 33, 0, .null, [], [])), (19, (.aload_n 0, 20, 0, 0, 0, .null, [], [])), (20, (.getfield 7, 23, 10, 0, 2, .null, [], [])), (23, (.iconst 0, 24, 0, 0, 0, .int 0, [], [])), (24, (.iload_n 2, 25, 2, 0, 0, .null, [], [])), (25, (.iastore, 26, 0, 0, 0, .null, [], [])), (26, (.aload_n 0, 27, 0, 0, 0, .null, [], [])), (27, (.getfield 7, 30, 10, 0, 2, .null, [], [])), (30, (.invokestatic 59, 33, 132, 1, 9, .null, [], [])), (33, (.iconst 0, 34, 0, 0, 0, .int 0, [], []))]),
  (49, [(34, (.istore_n 3, 35, 3, 0, 0, .null, [], [])), (35, (.iload_n 3, 36, 3, 0, 0, .null, [1, 4, 5, 6, 7], [])), (36, (.iload_n 2, 37, 2, 0, 0, .null, [], [])), (37, (.if_icmp .ge 35, 40, 72, 0, 0, .null, [], [])), (40, (.aload_n 0, 41, 0, 0, 0, .null, [], [])), (41, (.getfield 44, 44, 10, 34, 2, .null, [], [])), (44, (.iload_n 3, 45, 3, 0, 0, .null, [], [])), (45, (.aload_n 0, 46, 0, 0, 0, .null, [], [])), (46, (.invokevirtual 314, 49, 191, 1, 0, .ref 10, [], [])), (49, (.sipush 500, 52, 0, 0, 0, .int 500, [], []))]),
  (65, [(52, (.irem, 53, 0, 0, 0, .null, [], [])), (53, (.iastore, 54, 0, 0, 0, .null, [], [])), (54, (.aload_n 0, 55, 0, 0, 0, .null, [], [])), (55, (.getfield 47, 58, 10, 35, 2, .null, [], [])), (58, (.iload_n 3, 59, 3, 0, 0, .null, [], [])), (59, (.aload_n 0, 60, 0, 0, 0, .null, [], [])), (60, (.invokevirtual 314, 63, 191, 1, 0, .ref 10, [], [])), (63, (.iconst 5, 64, 0, 0, 0, .int 5, [], [])), (64, (.irem, 65, 0, 0, 0, .null, [], [])), (65, (.iastore, 66, 0, 0, 0, .null, [], []))]),
  (83, [(66, (.iinc 3 1, 69, 3, 0, 0, .int 1, [], [])), (69, (.goto (-34), 72, 35, 0, 0, .null, [], [])), (72, (.iconst 0, 73, 0, 0, 0, .int 0, [], [])), (73, (.istore_n 3, 74, 3, 0, 0, .null, [], [])), (74, (.iload_n 3, 75, 3, 0, 0, .null, [1, 4, 5, 6, 7], [])), (75, (.bipush 16, 77, 0, 0, 0, .int 16, [], [])), (77, (.if_icmp .ge 104, 80, 181, 0, 0, .null, [], [])), (80, (.iconst 0, 81, 0, 0, 0, .int 0, [], [])), (81, (.istore 4, 83, 4, 0, 0, .null, [], [])), (83, (.iload 4, 85, 4, 0, 0, .null, [1, 5, 6, 7], []))]),
  (102, [(85, (.iload_n 2, 86, 2, 0, 0, .null, [], [])), (86, (.if_icmp .ge 89, 89, 175, 0, 0, .null, [], [])), (89, (.aload_n 0, 90, 0, 0, 0, .null, [], [])), (90, (.invokevirtual 314, 93, 191, 1, 0, .ref 10, [], [])), (93, (.istore 5, 95, 5, 0, 0, .null, [], [])), (95, (.aload_n 0, 96, 0, 0, 0, .null, [], [])), (96, (.invokevirtual 314, 99, 191, 1, 0, .ref 10, [], [])), (99, (.istore 6, 101, 6, 0, 0, .null, [], [])), (101, (.aload_n 0, 102, 0, 0, 0, .null, [], [])), (102, (.invokevirtual 314, 105, 191, 1, 0, .ref 10, [], []))]),
  (121, [(105, (.istore 7, 107, 7, 0, 0, .null, [], [])), (107, (.iload 5, 109, 5, 0, 0, .null, [], [])), (109, (.iconst 4, 110, 0, 0, 0, .int 4, [], [])), (110, (.irem, 111, 0, 0, 0, .null, [], [])), (111, (.ifCond .eq 58, 114, 169, 0, 0, .null, [], [])), (114, (.aload_n 0, 115, 0, 0, 0, .null, [1, 5], [])), (115, (.getfield 7, 118, 10, 0, 2, .null, [], [])), (118, (.iload_n 3, 119, 3, 0, 0, .null, [], [])), (119, (.iload 4, 121, 4, 0, 0, .null, [], [])), (121, (.invokestatic 121, 124, 133, 2, 0, .null, [], []))]),
  (137, [(124, (.aload_n 0, 125, 0, 0, 0, .null, [], [])), (125, (.getfield 44, 128, 10, 34, 2, .null, [], [])), (128, (.iload 4, 130, 4, 0, 0, .null, [], [])), (130, (.iaload, 131, 0, 0, 0, .null, [], [])), (131, (.bipush 40, 133, 0, 0, 0, .int 40, [], [])), (133, (.iload_n 3, 134, 3, 0, 0, .null, [], [])), (134, (.iconst 1, 135, 0, 0, 0, .int 1, [], [])), (135, (.iadd, 136, 0, 0, 0, .null, [], [])), (136, (.imul, 137, 0, 0, 0, .null, [], [])), (137, (.iadd, 138, 0, 0, 0, .null, [], []))]),
  (151, [(138, (.aload_n 0, 139, 0, 0, 0, .null, [], [])), (139, (.getfield 47, 142, 10, 35, 2, .null, [], [])), (142, (.iload 4, 144, 4, 0, 0, .null, [], [])), (144, (.iaload, 145, 0, 0, 0, .null, [], [])), (145, (.iload_n 3, 146, 3, 0, 0, .null, [], [])), (146, (.imul, 147, 0, 0, 0, .null, [], [])), (147, (.iadd, 148, 0, 0, 0, .null, [], [])), (148, (.iload 6, 150, 6, 0, 0, .null, [], [])), (150, (.iconst 3, 151, 0, 0, 0, .int 3, [], [])), (151, (.irem, 152, 0, 0, 0, .null, [], []))]),
  (168, [(152, (.iadd, 153, 0, 0, 0, .null, [], [])), (153, (.iload 7, 155, 7, 0, 0, .null, [], [])), (155, (.bipush 9, 157, 0, 0, 0, .int 9, [], [])), (157, (.irem, 158, 0, 0, 0, .null, [], [])), (158, (.ifCond .ne 8, 161, 166, 0, 0, .null, [], [])), (161, (.bipush 97, 163, 0, 0, 0, .int 97, [], [])), (163, (.goto 4, 166, 167, 0, 0, .null, [], [])), (166, (.iconst 0, 167, 0, 0, 0, .int 0, [], [])), (167, (.iadd, 168, 0, 0, 0, .null, [], [])), (168, (.iastore, 169, 0, 0, 0, .null, [], []))]),
  (185, [(169, (.iinc 4 1, 172, 4, 0, 0, .int 1, [], [])), (172, (.goto (-89), 175, 83, 0, 0, .null, [], [])), (175, (.iinc 3 1, 178, 3, 0, 0, .int 1, [], [])), (178, (.goto (-104), 181, 74, 0, 0, .null, [], [])), (181, (.aload_n 0, 182, 0, 0, 0, .null, [], [])), (182, (.invokevirtual 144, 185, 151, 1, 0, .ref 10, [], [])), (185, (.ireturn, 186, 0, 0, 0, .null, [], []))])]
def zc_Mo_draw : zCd := zFd zl_Mo_draw
def zl_Mo_keep : List (Nat × List (Nat × zEnt)) := [(11, [(0, (.iload_n 1, 1, 1, 0, 0, .null, [], [])), (1, (.i2l, 2, 0, 0, 0, .null, [], [])), (2, (.lconst 0, 3, 0, 0, 0, .long 0, [], [])), (3, (.lconst 1, 4, 0, 0, 0, .long 1, [], [])), (4, (.invokestatic 65, 7, 130, 3, 0, .null, [], [])), (7, (.ifCond .ne 5, 10, 12, 0, 0, .null, [], [])), (10, (.iconst (-1), 11, 0, 0, 0, .int (-1), [], [])), (11, (.ireturn, 12, 0, 0, 0, .null, [], []))]),
  (23, [(12, (.aload_n 0, 13, 0, 0, 0, .null, [], [])), (13, (.getfield 19, 16, 10, 3, 2, .null, [], [])), (16, (.iload_n 1, 17, 1, 0, 0, .null, [], [])), (17, (.baload, 18, 1, 0, 0, .null, [], [])), (18, (.invokestatic 149, 21, 131, 1, 0, .null, [], [])), (21, (.istore_n 2, 22, 2, 0, 0, .null, [], [])), (22, (.aload_n 0, 23, 0, 0, 0, .null, [], [])), (23, (.getfield 19, 26, 10, 3, 2, .null, [], []))]),
  (34, [(26, (.iload_n 1, 27, 1, 0, 0, .null, [], [])), (27, (.iconst 1, 28, 0, 0, 0, .int 1, [], [])), (28, (.bastore, 29, 1, 0, 0, .null, [], [])), (29, (.iconst 0, 30, 0, 0, 0, .int 0, [], [])), (30, (.istore_n 3, 31, 3, 0, 0, .null, [], [])), (31, (.iload_n 3, 32, 3, 0, 0, .null, [], [])), (32, (.bipush 115, 34, 0, 0, 0, .int 115, [], [])), (34, (.if_icmp .ge 26, 37, 60, 0, 0, .null, [], []))]),
  (47, [(37, (.aload_n 0, 38, 0, 0, 0, .null, [], [])), (38, (.getfield 16, 41, 10, 2, 2, .null, [], [])), (41, (.bipush 115, 43, 0, 0, 0, .int 115, [], [])), (43, (.iload_n 1, 44, 1, 0, 0, .null, [], [])), (44, (.imul, 45, 0, 0, 0, .null, [], [])), (45, (.iload_n 3, 46, 3, 0, 0, .null, [], [])), (46, (.iadd, 47, 0, 0, 0, .null, [], [])), (47, (.aload_n 0, 48, 0, 0, 0, .null, [], []))]),
  (61, [(48, (.getfield 7, 51, 10, 0, 2, .null, [], [])), (51, (.iload_n 3, 52, 3, 0, 0, .null, [], [])), (52, (.iaload, 53, 0, 0, 0, .null, [], [])), (53, (.iastore, 54, 0, 0, 0, .null, [], [])), (54, (.iinc 3 1, 57, 3, 0, 0, .int 1, [], [])), (57, (.goto (-26), 60, 31, 0, 0, .null, [], [])), (60, (.iload_n 2, 61, 2, 0, 0, .null, [], [])), (61, (.ireturn, 62, 0, 0, 0, .null, [], []))])]
def zc_Mo_keep : zCd := zFd zl_Mo_keep
def zl_Mo_back : List (Nat × List (Nat × zEnt)) := [(11, [(0, (.iload_n 1, 1, 1, 0, 0, .null, [], [])), (1, (.i2l, 2, 0, 0, 0, .null, [], [])), (2, (.lconst 0, 3, 0, 0, 0, .long 0, [], [])), (3, (.lconst 1, 4, 0, 0, 0, .long 1, [], [])), (4, (.invokestatic 65, 7, 130, 3, 0, .null, [], [])), (7, (.ifCond .ne 5, 10, 12, 0, 0, .null, [], [])), (10, (.iconst (-1), 11, 0, 0, 0, .int (-1), [], [])), (11, (.ireturn, 12, 0, 0, 0, .null, [], []))]),
  (24, [(12, (.aload_n 0, 13, 0, 0, 0, .null, [], [])), (13, (.getfield 19, 16, 10, 3, 2, .null, [], [])), (16, (.iload_n 1, 17, 1, 0, 0, .null, [], [])), (17, (.baload, 18, 1, 0, 0, .null, [], [])), (18, (.ifCond .ne 6, 21, 24, 0, 0, .null, [], [])), (21, (.bipush (-2), 23, 0, 0, 0, .int (-2), [], [])), (23, (.ireturn, 24, 0, 0, 0, .null, [], [])), (24, (.iconst 0, 25, 0, 0, 0, .int 0, [], []))]),
  (37, [(25, (.istore_n 2, 26, 2, 0, 0, .null, [], [])), (26, (.iload_n 2, 27, 2, 0, 0, .null, [], [])), (27, (.bipush 115, 29, 0, 0, 0, .int 115, [], [])), (29, (.if_icmp .ge 26, 32, 55, 0, 0, .null, [], [])), (32, (.aload_n 0, 33, 0, 0, 0, .null, [], [])), (33, (.getfield 7, 36, 10, 0, 2, .null, [], [])), (36, (.iload_n 2, 37, 2, 0, 0, .null, [], [])), (37, (.aload_n 0, 38, 0, 0, 0, .null, [], []))]),
  (48, [(38, (.getfield 16, 41, 10, 2, 2, .null, [], [])), (41, (.bipush 115, 43, 0, 0, 0, .int 115, [], [])), (43, (.iload_n 1, 44, 1, 0, 0, .null, [], [])), (44, (.imul, 45, 0, 0, 0, .null, [], [])), (45, (.iload_n 2, 46, 2, 0, 0, .null, [], [])), (46, (.iadd, 47, 0, 0, 0, .null, [], [])), (47, (.iaload, 48, 0, 0, 0, .null, [], [])), (48, (.iastore, 49, 0, 0, 0, .null, [], []))]),
  (59, [(49, (.iinc 2 1, 52, 2, 0, 0, .int 1, [], [])), (52, (.goto (-26), 55, 26, 0, 0, .null, [], [])), (55, (.aload_n 0, 56, 0, 0, 0, .null, [], [])), (56, (.invokevirtual 144, 59, 151, 1, 0, .ref 10, [], [])), (59, (.ireturn, 60, 0, 0, 0, .null, [], []))])]
def zc_Mo_back : zCd := zFd zl_Mo_back
def zl_Mo_isSheet : List (Nat × List (Nat × zEnt)) := [(13, [(0, (.iload_n 0, 1, 0, 0, 0, .null, [], [])), (1, (.i2l, 2, 0, 0, 0, .null, [], [])), (2, (.lconst 0, 3, 0, 0, 0, .long 0, [], [])), (3, (.ldc2_w 254, 6, 0, 0, 0, .long 3, [], [])), (6, (.invokestatic 65, 9, 130, 3, 0, .null, [], [])), (9, (.ifCond .eq 19, 12, 28, 0, 0, .null, [], [])), (12, (.iload_n 1, 13, 1, 0, 0, .null, [], [])), (13, (.i2l, 14, 0, 0, 0, .null, [], []))]),
  (29, [(14, (.lconst 0, 15, 0, 0, 0, .long 0, [], [])), (15, (.ldc2_w 268, 18, 0, 0, 0, .long 2, [], [])), (18, (.invokestatic 65, 21, 130, 3, 0, .null, [], [])), (21, (.ifCond .eq 7, 24, 28, 0, 0, .null, [], [])), (24, (.iconst 1, 25, 0, 0, 0, .int 1, [], [])), (25, (.goto 4, 28, 29, 0, 0, .null, [], [])), (28, (.iconst 0, 29, 0, 0, 0, .int 0, [], [])), (29, (.ireturn, 30, 0, 0, 3, .null, [], []))])]
def zc_Mo_isSheet : zCd := zFd zl_Mo_isSheet
def zl_Mo_sheet : List (Nat × List (Nat × zEnt)) := [(14, [(0, (.iload_n 1, 1, 1, 0, 0, .null, [], [])), (1, (.iload_n 2, 2, 2, 0, 0, .null, [], [])), (2, (.invokestatic 317, 5, 195, 2, 0, .null, [], [])), (5, (.ifCond .eq 9, 8, 14, 0, 0, .null, [], [])), (8, (.iload_n 3, 9, 3, 0, 0, .null, [], [])), (9, (.bipush 48, 11, 0, 0, 0, .int 48, [], [])), (11, (.if_icmp .le 5, 14, 16, 0, 0, .null, [], [])), (14, (.iconst (-1), 15, 0, 0, 0, .int (-1), [], []))]),
  (27, [(15, (.ireturn, 16, 0, 0, 0, .null, [], [])), (16, (.iload_n 3, 17, 3, 0, 0, .null, [], [])), (17, (.ifCond .ge 6, 20, 23, 0, 0, .null, [], [])), (20, (.bipush (-14), 22, 0, 0, 0, .int (-14), [], [])), (22, (.ireturn, 23, 0, 0, 0, .null, [], [])), (23, (.aload_n 0, 24, 0, 0, 0, .null, [], [])), (24, (.getfield 50, 27, 10, 36, 2, .null, [], [])), (27, (.iload_n 1, 28, 1, 0, 0, .null, [], []))]),
  (37, [(28, (.iload_n 2, 29, 2, 0, 0, .null, [], [])), (29, (.iastore, 30, 0, 0, 0, .null, [], [])), (30, (.aload_n 0, 31, 0, 0, 0, .null, [], [])), (31, (.getfield 53, 34, 10, 37, 2, .null, [], [])), (34, (.iload_n 1, 35, 1, 0, 0, .null, [], [])), (35, (.iload_n 3, 36, 3, 0, 0, .null, [], [])), (36, (.iastore, 37, 0, 0, 0, .null, [], [])), (37, (.iconst 0, 38, 0, 0, 0, .int 0, [], []))]),
  (53, [(38, (.istore 4, 40, 4, 0, 0, .null, [], [])), (40, (.iload 4, 42, 4, 0, 0, .null, [2, 3], [])), (42, (.bipush 48, 44, 0, 0, 0, .int 48, [], [])), (44, (.if_icmp .ge 22, 47, 66, 0, 0, .null, [], [])), (47, (.aload_n 0, 48, 0, 0, 0, .null, [], [])), (48, (.getfield 56, 51, 10, 38, 2, .null, [], [])), (51, (.bipush 48, 53, 0, 0, 0, .int 48, [], [])), (53, (.iload_n 1, 54, 1, 0, 0, .null, [], []))]),
  (66, [(54, (.imul, 55, 0, 0, 0, .null, [], [])), (55, (.iload 4, 57, 4, 0, 0, .null, [], [])), (57, (.iadd, 58, 0, 0, 0, .null, [], [])), (58, (.iconst 0, 59, 0, 0, 0, .int 0, [], [])), (59, (.iastore, 60, 0, 0, 0, .null, [], [])), (60, (.iinc 4 1, 63, 4, 0, 0, .int 1, [], [])), (63, (.goto (-23), 66, 40, 0, 0, .null, [], [])), (66, (.iconst 1, 67, 0, 0, 0, .int 1, [], []))]),
  (67, [(67, (.ireturn, 68, 0, 0, 0, .null, [], []))])]
def zc_Mo_sheet : zCd := zFd zl_Mo_sheet
def zl_Mo_lay : List (Nat × List (Nat × zEnt)) := [(11, [(0, (.iload_n 1, 1, 1, 0, 0, .null, [], [])), (1, (.iconst 0, 2, 0, 0, 0, .int 0, [], [])), (2, (.invokestatic 317, 5, 195, 2, 0, .null, [], [])), (5, (.ifCond .ne 5, 8, 10, 0, 0, .null, [], [])), (8, (.iconst (-1), 9, 0, 0, 0, .int (-1), [], [])), (9, (.ireturn, 10, 0, 0, 0, .null, [], [])), (10, (.aload_n 0, 11, 0, 0, 0, .null, [], [])), (11, (.getfield 50, 14, 10, 36, 2, .null, [], []))]),
  (25, [(14, (.iload_n 1, 15, 1, 0, 0, .null, [], [])), (15, (.iaload, 16, 0, 0, 0, .null, [], [])), (16, (.bipush (-4), 18, 0, 0, 0, .int (-4), [], [])), (18, (.if_icmp .ne 6, 21, 24, 0, 0, .null, [], [])), (21, (.bipush (-11), 23, 0, 0, 0, .int (-11), [], [])), (23, (.ireturn, 24, 0, 0, 0, .null, [], [])), (24, (.iload_n 2, 25, 2, 0, 0, .null, [], [])), (25, (.i2l, 26, 0, 0, 0, .null, [], []))]),
  (35, [(26, (.lconst 0, 27, 0, 0, 0, .long 0, [], [])), (27, (.aload_n 0, 28, 0, 0, 0, .null, [], [])), (28, (.getfield 53, 31, 10, 37, 2, .null, [], [])), (31, (.iload_n 1, 32, 1, 0, 0, .null, [], [])), (32, (.iaload, 33, 0, 0, 0, .null, [], [])), (33, (.iconst 1, 34, 0, 0, 0, .int 1, [], [])), (34, (.isub, 35, 0, 0, 0, .null, [], [])), (35, (.i2l, 36, 0, 0, 0, .null, [], []))]),
  (51, [(36, (.invokestatic 65, 39, 130, 3, 0, .null, [], [])), (39, (.ifCond .ne 6, 42, 45, 0, 0, .null, [], [])), (42, (.bipush (-13), 44, 0, 0, 0, .int (-13), [], [])), (44, (.ireturn, 45, 0, 0, 0, .null, [], [])), (45, (.aload_n 0, 46, 0, 0, 0, .null, [], [])), (46, (.getfield 56, 49, 10, 38, 2, .null, [], [])), (49, (.bipush 48, 51, 0, 0, 0, .int 48, [], [])), (51, (.iload_n 1, 52, 1, 0, 0, .null, [], []))]),
  (61, [(52, (.imul, 53, 0, 0, 0, .null, [], [])), (53, (.iload_n 2, 54, 2, 0, 0, .null, [], [])), (54, (.iadd, 55, 0, 0, 0, .null, [], [])), (55, (.aload_n 0, 56, 0, 0, 0, .null, [], [])), (56, (.getfield 50, 59, 10, 36, 2, .null, [], [])), (59, (.iload_n 1, 60, 1, 0, 0, .null, [], [])), (60, (.iaload, 61, 0, 0, 0, .null, [], [])), (61, (.ifCond .ne 8, 64, 69, 0, 0, .null, [], []))]),
  (72, [(64, (.iload_n 3, 65, 3, 0, 0, .null, [], [])), (65, (.i2s, 66, 0, 0, 0, .null, [], [])), (66, (.goto 4, 69, 70, 0, 0, .null, [], [])), (69, (.iload_n 3, 70, 3, 0, 0, .null, [], [])), (70, (.iastore, 71, 0, 0, 0, .null, [], [])), (71, (.iconst 1, 72, 0, 0, 0, .int 1, [], [])), (72, (.ireturn, 73, 0, 0, 0, .null, [], []))])]
def zc_Mo_lay : zCd := zFd zl_Mo_lay
def zl_Mo_read : List (Nat × List (Nat × zEnt)) := [(19, [(0, (.iload_n 1, 1, 1, 0, 0, .null, [], [])), (1, (.iload_n 2, 2, 2, 0, 0, .null, [], [])), (2, (.invokestatic 317, 5, 195, 2, 0, .null, [], [])), (5, (.ifCond .eq 25, 8, 30, 0, 0, .null, [], [])), (8, (.aload_n 0, 9, 0, 0, 0, .null, [], [])), (9, (.iload 4, 11, 4, 0, 0, .null, [], [])), (11, (.invokevirtual 169, 14, 148, 2, 0, .ref 10, [], [])), (14, (.ifCond .eq 16, 17, 30, 0, 0, .null, [], [])), (17, (.iload 5, 19, 5, 0, 0, .null, [], [])), (19, (.i2l, 20, 0, 0, 0, .null, [], []))]),
  (37, [(20, (.lconst 0, 21, 0, 0, 0, .long 0, [], [])), (21, (.ldc2_w 320, 24, 0, 0, 0, .long 16, [], [])), (24, (.invokestatic 65, 27, 130, 3, 0, .null, [], [])), (27, (.ifCond .ne 5, 30, 32, 0, 0, .null, [], [])), (30, (.iconst (-1), 31, 0, 0, 0, .int (-1), [], [])), (31, (.ireturn, 32, 0, 0, 0, .null, [], [])), (32, (.iconst 0, 33, 0, 0, 0, .int 0, [], [])), (33, (.istore 6, 35, 6, 0, 0, .null, [], [])), (35, (.iload 6, 37, 6, 0, 0, .null, [7, 8, 9], [])), (37, (.iload 5, 39, 5, 0, 0, .null, [], []))]),
  (54, [(39, (.if_icmp .ge 107, 42, 146, 0, 0, .null, [], [])), (42, (.iload_n 3, 43, 3, 0, 0, .null, [], [])), (43, (.i2l, 44, 0, 0, 0, .null, [], [])), (44, (.iload 6, 46, 6, 0, 0, .null, [], [])), (46, (.i2l, 47, 0, 0, 0, .null, [], [])), (47, (.ladd, 48, 0, 0, 0, .null, [], [])), (48, (.lstore 7, 50, 7, 0, 0, .null, [], [])), (50, (.aload_n 0, 51, 0, 0, 0, .null, [], [])), (51, (.getfield 50, 54, 10, 36, 2, .null, [], [])), (54, (.iload_n 1, 55, 1, 0, 0, .null, [], []))]),
  (71, [(55, (.iaload, 56, 0, 0, 0, .null, [], [])), (56, (.bipush (-4), 58, 0, 0, 0, .int (-4), [], [])), (58, (.if_icmp .ne 7, 61, 65, 0, 0, .null, [], [])), (61, (.iconst 1, 62, 0, 0, 0, .int 1, [], [])), (62, (.goto 40, 65, 102, 0, 0, .null, [], [])), (65, (.aload_n 0, 66, 0, 0, 0, .null, [], [])), (66, (.getfield 50, 69, 10, 36, 2, .null, [], [])), (69, (.iload_n 1, 70, 1, 0, 0, .null, [], [])), (70, (.iaload, 71, 0, 0, 0, .null, [], [])), (71, (.iload_n 2, 72, 2, 0, 0, .null, [], []))]),
  (88, [(72, (.if_icmp .eq 7, 75, 79, 0, 0, .null, [], [])), (75, (.iconst 2, 76, 0, 0, 0, .int 2, [], [])), (76, (.goto 26, 79, 102, 0, 0, .null, [], [])), (79, (.lload 7, 81, 7, 0, 0, .null, [], [])), (81, (.lconst 0, 82, 0, 0, 0, .long 0, [], [])), (82, (.aload_n 0, 83, 0, 0, 0, .null, [], [])), (83, (.getfield 53, 86, 10, 37, 2, .null, [], [])), (86, (.iload_n 1, 87, 1, 0, 0, .null, [], [])), (87, (.iaload, 88, 0, 0, 0, .null, [], [])), (88, (.iconst 1, 89, 0, 0, 0, .int 1, [], []))]),
  (106, [(89, (.isub, 90, 0, 0, 0, .null, [], [])), (90, (.i2l, 91, 0, 0, 0, .null, [], [])), (91, (.invokestatic 65, 94, 130, 3, 0, .null, [], [])), (94, (.ifCond .eq 7, 97, 101, 0, 0, .null, [], [])), (97, (.iconst 0, 98, 0, 0, 0, .int 0, [], [])), (98, (.goto 4, 101, 102, 0, 0, .null, [], [])), (101, (.iconst 3, 102, 0, 0, 0, .int 3, [], [])), (102, (.istore 9, 104, 9, 0, 0, .null, [8, 9], [])), (104, (.iload 9, 106, 9, 0, 0, .null, [], [])), (106, (.ifCond .le 9, 109, 115, 0, 0, .null, [], []))]),
  (123, [(109, (.bipush (-10), 111, 0, 0, 0, .int (-10), [], [])), (111, (.iload 9, 113, 9, 0, 0, .null, [], [])), (113, (.isub, 114, 0, 0, 0, .null, [], [])), (114, (.ireturn, 115, 0, 0, 0, .null, [], [])), (115, (.aload_n 0, 116, 0, 0, 0, .null, [], [])), (116, (.getfield 56, 119, 10, 38, 2, .null, [], [])), (119, (.bipush 48, 121, 0, 0, 0, .int 48, [], [])), (121, (.iload_n 1, 122, 1, 0, 0, .null, [], [])), (122, (.imul, 123, 0, 0, 0, .null, [], [])), (123, (.lload 7, 125, 7, 0, 0, .null, [], []))]),
  (140, [(125, (.l2i, 126, 0, 0, 0, .null, [], [])), (126, (.iadd, 127, 0, 0, 0, .null, [], [])), (127, (.iaload, 128, 0, 0, 0, .null, [], [])), (128, (.sipush 9999, 131, 0, 0, 0, .int 9999, [], [])), (131, (.if_icmp .le 9, 134, 140, 0, 0, .null, [], [])), (134, (.bipush (-20), 136, 0, 0, 0, .int (-20), [], [])), (136, (.iload 6, 138, 6, 0, 0, .null, [], [])), (138, (.isub, 139, 0, 0, 0, .null, [], [])), (139, (.ireturn, 140, 0, 0, 0, .null, [], [])), (140, (.iinc 6 1, 143, 6, 0, 0, .int 1, [], []))]),
  (162, [(143, (.goto (-108), 146, 35, 0, 0, .null, [], [])), (146, (.iconst 0, 147, 0, 0, 0, .int 0, [], [])), (147, (.istore 6, 149, 6, 0, 0, .null, [], [])), (149, (.iload 6, 151, 6, 0, 0, .null, [2, 7, 8, 9], [])), (151, (.iload 5, 153, 5, 0, 0, .null, [], [])), (153, (.if_icmp .ge 49, 156, 202, 0, 0, .null, [], [])), (156, (.aload_n 0, 157, 0, 0, 0, .null, [], [])), (157, (.getfield 56, 160, 10, 38, 2, .null, [], [])), (160, (.bipush 48, 162, 0, 0, 0, .int 48, [], [])), (162, (.iload_n 1, 163, 1, 0, 0, .null, [], []))]),
  (176, [(163, (.imul, 164, 0, 0, 0, .null, [], [])), (164, (.iload_n 3, 165, 3, 0, 0, .null, [], [])), (165, (.iadd, 166, 0, 0, 0, .null, [], [])), (166, (.iload 6, 168, 6, 0, 0, .null, [], [])), (168, (.iadd, 169, 0, 0, 0, .null, [], [])), (169, (.iaload, 170, 0, 0, 0, .null, [], [])), (170, (.istore 7, 172, 7, 0, 0, .null, [], [])), (172, (.aload_n 0, 173, 0, 0, 0, .null, [], [])), (173, (.getfield 7, 176, 10, 0, 2, .null, [], [])), (176, (.iload 6, 178, 6, 0, 0, .null, [], []))]),
  (199, [(178, (.iload 4, 180, 4, 0, 0, .null, [], [])), (180, (.invokestatic 121, 183, 133, 2, 0, .null, [], [])), (183, (.iload 7, 185, 7, 0, 0, .null, [], [])), (185, (.ifCond .ge 8, 188, 193, 0, 0, .null, [], [])), (188, (.bipush (-4), 190, 0, 0, 0, .int (-4), [], [])), (190, (.goto 5, 193, 195, 0, 0, .null, [], [])), (193, (.iload 7, 195, 7, 0, 0, .null, [], [])), (195, (.iastore, 196, 0, 0, 0, .null, [], [])), (196, (.iinc 6 1, 199, 6, 0, 0, .int 1, [], [])), (199, (.goto (-50), 202, 149, 0, 0, .null, [], []))]),
  (204, [(202, (.iload 5, 204, 5, 0, 0, .null, [], [])), (204, (.ireturn, 205, 0, 0, 0, .null, [], []))])]
def zc_Mo_read : zCd := zFd zl_Mo_read
def zl_Mo_count : List (Nat × List (Nat × zEnt)) := [(37, [(0, (.iload_n 1, 1, 1, 0, 0, .null, [], [])), (1, (.tableswitch 75 0 2 #[27, 47, 52], 28, 76, 0, 0, .null, [], [28, 48, 53])), (28, (.aload_n 0, 29, 0, 0, 0, .null, [], [])), (29, (.getfield 19, 32, 10, 3, 2, .null, [], [])), (32, (.iconst 0, 33, 0, 0, 0, .int 0, [], [])), (33, (.baload, 34, 1, 0, 0, .null, [], [])), (34, (.invokestatic 149, 37, 131, 1, 0, .null, [], [])), (37, (.aload_n 0, 38, 0, 0, 0, .null, [], []))]),
  (49, [(38, (.getfield 19, 41, 10, 3, 2, .null, [], [])), (41, (.iconst 1, 42, 0, 0, 0, .int 1, [], [])), (42, (.baload, 43, 1, 0, 0, .null, [], [])), (43, (.invokestatic 149, 46, 131, 1, 0, .null, [], [])), (46, (.iadd, 47, 0, 0, 0, .null, [], [])), (47, (.ireturn, 48, 0, 0, 0, .null, [], [])), (48, (.aload_n 0, 49, 0, 0, 0, .null, [], [])), (49, (.getfield 69, 52, 10, 5, 0, .null, [], []))]),
  (64, [(52, (.ireturn, 53, 0, 0, 0, .null, [], [])), (53, (.aload_n 0, 54, 0, 0, 0, .null, [], [])), (54, (.getfield 50, 57, 10, 36, 2, .null, [], [])), (57, (.iconst 0, 58, 0, 0, 0, .int 0, [], [])), (58, (.iaload, 59, 0, 0, 0, .null, [], [])), (59, (.bipush (-4), 61, 0, 0, 0, .int (-4), [], [])), (61, (.if_icmp .ne 8, 64, 69, 0, 0, .null, [], [])), (64, (.bipush (-4), 66, 0, 0, 0, .int (-4), [], []))]),
  (77, [(66, (.goto 9, 69, 75, 0, 0, .null, [], [])), (69, (.aload_n 0, 70, 0, 0, 0, .null, [], [])), (70, (.getfield 53, 73, 10, 37, 2, .null, [], [])), (73, (.iconst 0, 74, 0, 0, 0, .int 0, [], [])), (74, (.iaload, 75, 0, 0, 0, .null, [], [])), (75, (.ireturn, 76, 0, 0, 0, .null, [], [])), (76, (.iconst (-1), 77, 0, 0, 0, .int (-1), [], [])), (77, (.ireturn, 78, 0, 0, 0, .null, [], []))])]
def zc_Mo_count : zCd := zFd zl_Mo_count
def zl_Law_law : List (Nat × List (Nat × zEnt)) := [(161, [(0, (.new 7, 3, 9, 12, 0, .null, [], [2, 2, 2, 2, 2, 2, 2, 2, 2, 2, 0, 0])), (3, (.dup, 4, 0, 0, 0, .null, [], [])), (4, (.invokespecial 9, 7, 87, 1, 9, .null, [], [130, 2548])), (7, (.astore_n 1, 8, 1, 0, 0, .null, [], [])), (8, (.new 10, 11, 10, 39, 0, .null, [], [2, 2, 2, 2, 2, 0, 0, 0, 0, 0, 0, 0, 0, 0, 0, 1, 1, 1, 1, 1, 0, 1, 2, 2, 0, 2, 2, 2, 2, 0, 0, 0, 1, 0, 2, 2, 2, 2, 2])), (11, (.dup, 12, 0, 0, 0, .null, [], [])), (12, (.invokespecial 12, 15, 129, 1, 9, .null, [], [16, 1078])), (15, (.astore_n 2, 16, 2, 0, 0, .null, [], [])), (16, (.iconst 0, 17, 0, 0, 0, .int 0, [], [])), (17, (.istore_n 3, 18, 3, 0, 0, .null, [], [])), (18, (.iload_n 3, 19, 3, 0, 0, .null, [], [])), (19, (.aload_n 0, 20, 0, 0, 0, .null, [], [])), (20, (.arraylength, 21, 3, 0, 0, .null, [], [])), (21, (.bipush 6, 23, 0, 0, 0, .int 6, [], [])), (23, (.isub, 24, 0, 0, 0, .null, [], [])), (24, (.if_icmp .gt 1103, 27, 1127, 0, 0, .null, [], [])), (27, (.aload_n 0, 28, 0, 0, 0, .null, [], [])), (28, (.iload_n 3, 29, 3, 0, 0, .null, [], [])), (29, (.iaload, 30, 3, 0, 0, .null, [], [])), (30, (.bipush 31, 32, 0, 0, 0, .int 31, [], [])), (32, (.iand, 33, 0, 0, 0, .null, [], [])), (33, (.tableswitch 1088 0 26 #[123, 146, 169, 182, 195, 218, 251, 284, 327, 371, 414, 458, 491, 534, 608, 621, 695, 738, 771, 804, 837, 870, 893, 916, 959, 1002, 1065], 156, 1121, 0, 0, .null, [], [156, 179, 202, 215, 228, 251, 284, 317, 360, 404, 447, 491, 524, 567, 641, 654, 728, 771, 804, 837, 870, 903, 926, 949, 992, 1035, 1098])), (156, (.aload_n 1, 157, 1, 0, 0, .null, [], [])), (157, (.aload_n 0, 158, 0, 0, 0, .null, [], [])), (158, (.iload_n 3, 159, 3, 0, 0, .null, [], [])), (159, (.iconst 1, 160, 0, 0, 0, .int 1, [], [])), (160, (.iadd, 161, 0, 0, 0, .null, [], [])), (161, (.iaload, 162, 3, 0, 0, .null, [], []))]),
  (201, [(162, (.invokevirtual 13, 165, 88, 2, 0, .ref 9, [], [])), (165, (.aload_n 2, 166, 2, 0, 0, .null, [], [])), (166, (.aload_n 0, 167, 0, 0, 0, .null, [], [])), (167, (.iload_n 3, 168, 3, 0, 0, .null, [], [])), (168, (.iconst 1, 169, 0, 0, 0, .int 1, [], [])), (169, (.iadd, 170, 0, 0, 0, .null, [], [])), (170, (.iaload, 171, 3, 0, 0, .null, [], [])), (171, (.invokevirtual 17, 174, 134, 2, 0, .ref 10, [], [])), (174, (.if_icmp .eq 947, 177, 1121, 0, 0, .null, [], [])), (177, (.iconst 0, 178, 0, 0, 0, .int 0, [], [])), (178, (.ireturn, 179, 0, 0, 3, .null, [], [])), (179, (.aload_n 1, 180, 1, 0, 0, .null, [], [])), (180, (.aload_n 0, 181, 0, 0, 0, .null, [], [])), (181, (.iload_n 3, 182, 3, 0, 0, .null, [], [])), (182, (.iconst 1, 183, 0, 0, 0, .int 1, [], [])), (183, (.iadd, 184, 0, 0, 0, .null, [], [])), (184, (.iaload, 185, 3, 0, 0, .null, [], [])), (185, (.invokevirtual 18, 188, 89, 2, 0, .ref 9, [], [])), (188, (.aload_n 2, 189, 2, 0, 0, .null, [], [])), (189, (.aload_n 0, 190, 0, 0, 0, .null, [], [])), (190, (.iload_n 3, 191, 3, 0, 0, .null, [], [])), (191, (.iconst 1, 192, 0, 0, 0, .int 1, [], [])), (192, (.iadd, 193, 0, 0, 0, .null, [], [])), (193, (.iaload, 194, 3, 0, 0, .null, [], [])), (194, (.invokevirtual 21, 197, 135, 2, 0, .ref 10, [], [])), (197, (.if_icmp .eq 924, 200, 1121, 0, 0, .null, [], [])), (200, (.iconst 0, 201, 0, 0, 0, .int 0, [], [])), (201, (.ireturn, 202, 0, 0, 3, .null, [], []))]),
  (243, [(202, (.aload_n 1, 203, 1, 0, 0, .null, [], [])), (203, (.invokevirtual 22, 206, 90, 1, 0, .ref 9, [], [])), (206, (.aload_n 2, 207, 2, 0, 0, .null, [], [])), (207, (.invokevirtual 26, 210, 146, 1, 0, .ref 10, [], [])), (210, (.if_icmp .eq 911, 213, 1121, 0, 0, .null, [], [])), (213, (.iconst 0, 214, 0, 0, 0, .int 0, [], [])), (214, (.ireturn, 215, 0, 0, 3, .null, [], [])), (215, (.aload_n 1, 216, 1, 0, 0, .null, [], [])), (216, (.invokevirtual 27, 219, 92, 1, 0, .ref 9, [], [])), (219, (.aload_n 2, 220, 2, 0, 0, .null, [], [])), (220, (.invokevirtual 30, 223, 147, 1, 0, .ref 10, [], [])), (223, (.if_icmp .eq 898, 226, 1121, 0, 0, .null, [], [])), (226, (.iconst 0, 227, 0, 0, 0, .int 0, [], [])), (227, (.ireturn, 228, 0, 0, 3, .null, [], [])), (228, (.aload_n 1, 229, 1, 0, 0, .null, [], [])), (229, (.aload_n 0, 230, 0, 0, 0, .null, [], [])), (230, (.iload_n 3, 231, 3, 0, 0, .null, [], [])), (231, (.iconst 1, 232, 0, 0, 0, .int 1, [], [])), (232, (.iadd, 233, 0, 0, 0, .null, [], [])), (233, (.iaload, 234, 3, 0, 0, .null, [], [])), (234, (.invokevirtual 31, 237, 93, 2, 0, .ref 9, [], [])), (237, (.aload_n 2, 238, 2, 0, 0, .null, [], [])), (238, (.aload_n 0, 239, 0, 0, 0, .null, [], [])), (239, (.iload_n 3, 240, 3, 0, 0, .null, [], [])), (240, (.iconst 1, 241, 0, 0, 0, .int 1, [], [])), (241, (.iadd, 242, 0, 0, 0, .null, [], [])), (242, (.iaload, 243, 3, 0, 0, .null, [], [])), (243, (.invokevirtual 34, 246, 153, 2, 0, .ref 10, [], []))]),
  (279, [(246, (.if_icmp .eq 875, 249, 1121, 0, 0, .null, [], [])), (249, (.iconst 0, 250, 0, 0, 0, .int 0, [], [])), (250, (.ireturn, 251, 0, 0, 3, .null, [], [])), (251, (.aload_n 1, 252, 1, 0, 0, .null, [], [])), (252, (.aload_n 0, 253, 0, 0, 0, .null, [], [])), (253, (.iload_n 3, 254, 3, 0, 0, .null, [], [])), (254, (.iconst 1, 255, 0, 0, 0, .int 1, [], [])), (255, (.iadd, 256, 0, 0, 0, .null, [], [])), (256, (.iaload, 257, 3, 0, 0, .null, [], [])), (257, (.aload_n 0, 258, 0, 0, 0, .null, [], [])), (258, (.iload_n 3, 259, 3, 0, 0, .null, [], [])), (259, (.iconst 2, 260, 0, 0, 0, .int 2, [], [])), (260, (.iadd, 261, 0, 0, 0, .null, [], [])), (261, (.iaload, 262, 3, 0, 0, .null, [], [])), (262, (.invokevirtual 35, 265, 94, 3, 0, .ref 9, [], [])), (265, (.aload_n 2, 266, 2, 0, 0, .null, [], [])), (266, (.aload_n 0, 267, 0, 0, 0, .null, [], [])), (267, (.iload_n 3, 268, 3, 0, 0, .null, [], [])), (268, (.iconst 1, 269, 0, 0, 0, .int 1, [], [])), (269, (.iadd, 270, 0, 0, 0, .null, [], [])), (270, (.iaload, 271, 3, 0, 0, .null, [], [])), (271, (.aload_n 0, 272, 0, 0, 0, .null, [], [])), (272, (.iload_n 3, 273, 3, 0, 0, .null, [], [])), (273, (.iconst 2, 274, 0, 0, 0, .int 2, [], [])), (274, (.iadd, 275, 0, 0, 0, .null, [], [])), (275, (.iaload, 276, 3, 0, 0, .null, [], [])), (276, (.invokevirtual 39, 279, 154, 3, 0, .ref 10, [], [])), (279, (.if_icmp .eq 842, 282, 1121, 0, 0, .null, [], []))]),
  (315, [(282, (.iconst 0, 283, 0, 0, 0, .int 0, [], [])), (283, (.ireturn, 284, 0, 0, 3, .null, [], [])), (284, (.aload_n 1, 285, 1, 0, 0, .null, [], [])), (285, (.aload_n 0, 286, 0, 0, 0, .null, [], [])), (286, (.iload_n 3, 287, 3, 0, 0, .null, [], [])), (287, (.iconst 1, 288, 0, 0, 0, .int 1, [], [])), (288, (.iadd, 289, 0, 0, 0, .null, [], [])), (289, (.iaload, 290, 3, 0, 0, .null, [], [])), (290, (.aload_n 0, 291, 0, 0, 0, .null, [], [])), (291, (.iload_n 3, 292, 3, 0, 0, .null, [], [])), (292, (.iconst 2, 293, 0, 0, 0, .int 2, [], [])), (293, (.iadd, 294, 0, 0, 0, .null, [], [])), (294, (.iaload, 295, 3, 0, 0, .null, [], [])), (295, (.invokevirtual 40, 298, 95, 3, 0, .ref 9, [], [])), (298, (.aload_n 2, 299, 2, 0, 0, .null, [], [])), (299, (.aload_n 0, 300, 0, 0, 0, .null, [], [])), (300, (.iload_n 3, 301, 3, 0, 0, .null, [], [])), (301, (.iconst 1, 302, 0, 0, 0, .int 1, [], [])), (302, (.iadd, 303, 0, 0, 0, .null, [], [])), (303, (.iaload, 304, 3, 0, 0, .null, [], [])), (304, (.aload_n 0, 305, 0, 0, 0, .null, [], [])), (305, (.iload_n 3, 306, 3, 0, 0, .null, [], [])), (306, (.iconst 2, 307, 0, 0, 0, .int 2, [], [])), (307, (.iadd, 308, 0, 0, 0, .null, [], [])), (308, (.iaload, 309, 3, 0, 0, .null, [], [])), (309, (.invokevirtual 43, 312, 175, 3, 0, .ref 10, [], [])), (312, (.if_icmp .eq 809, 315, 1121, 0, 0, .null, [], [])), (315, (.iconst 0, 316, 0, 0, 0, .int 0, [], []))]),
  (345, [(316, (.ireturn, 317, 0, 0, 3, .null, [], [])), (317, (.aload_n 1, 318, 1, 0, 0, .null, [], [])), (318, (.aload_n 0, 319, 0, 0, 0, .null, [], [])), (319, (.iload_n 3, 320, 3, 0, 0, .null, [], [])), (320, (.iconst 1, 321, 0, 0, 0, .int 1, [], [])), (321, (.iadd, 322, 0, 0, 0, .null, [], [])), (322, (.iaload, 323, 3, 0, 0, .null, [], [])), (323, (.aload_n 0, 324, 0, 0, 0, .null, [], [])), (324, (.iload_n 3, 325, 3, 0, 0, .null, [], [])), (325, (.iconst 2, 326, 0, 0, 0, .int 2, [], [])), (326, (.iadd, 327, 0, 0, 0, .null, [], [])), (327, (.iaload, 328, 3, 0, 0, .null, [], [])), (328, (.aload_n 0, 329, 0, 0, 0, .null, [], [])), (329, (.iload_n 3, 330, 3, 0, 0, .null, [], [])), (330, (.iconst 3, 331, 0, 0, 0, .int 3, [], [])), (331, (.iadd, 332, 0, 0, 0, .null, [], [])), (332, (.iaload, 333, 3, 0, 0, .null, [], [])), (333, (.invokevirtual 44, 336, 96, 4, 0, .ref 9, [], [])), (336, (.aload_n 2, 337, 2, 0, 0, .null, [], [])), (337, (.aload_n 0, 338, 0, 0, 0, .null, [], [])), (338, (.iload_n 3, 339, 3, 0, 0, .null, [], [])), (339, (.iconst 1, 340, 0, 0, 0, .int 1, [], [])), (340, (.iadd, 341, 0, 0, 0, .null, [], [])), (341, (.iaload, 342, 3, 0, 0, .null, [], [])), (342, (.aload_n 0, 343, 0, 0, 0, .null, [], [])), (343, (.iload_n 3, 344, 3, 0, 0, .null, [], [])), (344, (.iconst 2, 345, 0, 0, 0, .int 2, [], [])), (345, (.iadd, 346, 0, 0, 0, .null, [], []))]),
  (379, [(346, (.iaload, 347, 3, 0, 0, .null, [], [])), (347, (.aload_n 0, 348, 0, 0, 0, .null, [], [])), (348, (.iload_n 3, 349, 3, 0, 0, .null, [], [])), (349, (.iconst 3, 350, 0, 0, 0, .int 3, [], [])), (350, (.iadd, 351, 0, 0, 0, .null, [], [])), (351, (.iaload, 352, 3, 0, 0, .null, [], [])), (352, (.invokevirtual 48, 355, 163, 4, 0, .ref 10, [], [])), (355, (.if_icmp .eq 766, 358, 1121, 0, 0, .null, [], [])), (358, (.iconst 0, 359, 0, 0, 0, .int 0, [], [])), (359, (.ireturn, 360, 0, 0, 3, .null, [], [])), (360, (.aload_n 1, 361, 1, 0, 0, .null, [], [])), (361, (.aload_n 0, 362, 0, 0, 0, .null, [], [])), (362, (.iload_n 3, 363, 3, 0, 0, .null, [], [])), (363, (.iconst 1, 364, 0, 0, 0, .int 1, [], [])), (364, (.iadd, 365, 0, 0, 0, .null, [], [])), (365, (.iaload, 366, 3, 0, 0, .null, [], [])), (366, (.aload_n 0, 367, 0, 0, 0, .null, [], [])), (367, (.iload_n 3, 368, 3, 0, 0, .null, [], [])), (368, (.iconst 2, 369, 0, 0, 0, .int 2, [], [])), (369, (.iadd, 370, 0, 0, 0, .null, [], [])), (370, (.iaload, 371, 3, 0, 0, .null, [], [])), (371, (.aload_n 0, 372, 0, 0, 0, .null, [], [])), (372, (.iload_n 3, 373, 3, 0, 0, .null, [], [])), (373, (.iconst 3, 374, 0, 0, 0, .int 3, [], [])), (374, (.iadd, 375, 0, 0, 0, .null, [], [])), (375, (.iaload, 376, 3, 0, 0, .null, [], [])), (376, (.invokevirtual 49, 379, 97, 4, 1, .ref 9, [], [])), (379, (.aload_n 2, 380, 2, 0, 0, .null, [], []))]),
  (411, [(380, (.aload_n 0, 381, 0, 0, 0, .null, [], [])), (381, (.iload_n 3, 382, 3, 0, 0, .null, [], [])), (382, (.iconst 1, 383, 0, 0, 0, .int 1, [], [])), (383, (.iadd, 384, 0, 0, 0, .null, [], [])), (384, (.iaload, 385, 3, 0, 0, .null, [], [])), (385, (.aload_n 0, 386, 0, 0, 0, .null, [], [])), (386, (.iload_n 3, 387, 3, 0, 0, .null, [], [])), (387, (.iconst 2, 388, 0, 0, 0, .int 2, [], [])), (388, (.iadd, 389, 0, 0, 0, .null, [], [])), (389, (.iaload, 390, 3, 0, 0, .null, [], [])), (390, (.aload_n 0, 391, 0, 0, 0, .null, [], [])), (391, (.iload_n 3, 392, 3, 0, 0, .null, [], [])), (392, (.iconst 3, 393, 0, 0, 0, .int 3, [], [])), (393, (.iadd, 394, 0, 0, 0, .null, [], [])), (394, (.iaload, 395, 3, 0, 0, .null, [], [])), (395, (.invokevirtual 53, 398, 164, 4, 1, .ref 10, [], [])), (398, (.lcmp, 399, 0, 0, 0, .null, [], [])), (399, (.ifCond .eq 722, 402, 1121, 0, 0, .null, [], [])), (402, (.iconst 0, 403, 0, 0, 0, .int 0, [], [])), (403, (.ireturn, 404, 0, 0, 3, .null, [], [])), (404, (.aload_n 1, 405, 1, 0, 0, .null, [], [])), (405, (.aload_n 0, 406, 0, 0, 0, .null, [], [])), (406, (.iload_n 3, 407, 3, 0, 0, .null, [], [])), (407, (.iconst 1, 408, 0, 0, 0, .int 1, [], [])), (408, (.iadd, 409, 0, 0, 0, .null, [], [])), (409, (.iaload, 410, 3, 0, 0, .null, [], [])), (410, (.aload_n 0, 411, 0, 0, 0, .null, [], [])), (411, (.iload_n 3, 412, 3, 0, 0, .null, [], []))]),
  (445, [(412, (.iconst 2, 413, 0, 0, 0, .int 2, [], [])), (413, (.iadd, 414, 0, 0, 0, .null, [], [])), (414, (.iaload, 415, 3, 0, 0, .null, [], [])), (415, (.aload_n 0, 416, 0, 0, 0, .null, [], [])), (416, (.iload_n 3, 417, 3, 0, 0, .null, [], [])), (417, (.iconst 3, 418, 0, 0, 0, .int 3, [], [])), (418, (.iadd, 419, 0, 0, 0, .null, [], [])), (419, (.iaload, 420, 3, 0, 0, .null, [], [])), (420, (.invokevirtual 54, 423, 98, 4, 0, .ref 9, [], [])), (423, (.aload_n 2, 424, 2, 0, 0, .null, [], [])), (424, (.aload_n 0, 425, 0, 0, 0, .null, [], [])), (425, (.iload_n 3, 426, 3, 0, 0, .null, [], [])), (426, (.iconst 1, 427, 0, 0, 0, .int 1, [], [])), (427, (.iadd, 428, 0, 0, 0, .null, [], [])), (428, (.iaload, 429, 3, 0, 0, .null, [], [])), (429, (.aload_n 0, 430, 0, 0, 0, .null, [], [])), (430, (.iload_n 3, 431, 3, 0, 0, .null, [], [])), (431, (.iconst 2, 432, 0, 0, 0, .int 2, [], [])), (432, (.iadd, 433, 0, 0, 0, .null, [], [])), (433, (.iaload, 434, 3, 0, 0, .null, [], [])), (434, (.aload_n 0, 435, 0, 0, 0, .null, [], [])), (435, (.iload_n 3, 436, 3, 0, 0, .null, [], [])), (436, (.iconst 3, 437, 0, 0, 0, .int 3, [], [])), (437, (.iadd, 438, 0, 0, 0, .null, [], [])), (438, (.iaload, 439, 3, 0, 0, .null, [], [])), (439, (.invokevirtual 57, 442, 165, 4, 0, .ref 10, [], [])), (442, (.if_icmp .eq 679, 445, 1121, 0, 0, .null, [], [])), (445, (.iconst 0, 446, 0, 0, 0, .int 0, [], []))]),
  (475, [(446, (.ireturn, 447, 0, 0, 3, .null, [], [])), (447, (.aload_n 1, 448, 1, 0, 0, .null, [], [])), (448, (.aload_n 0, 449, 0, 0, 0, .null, [], [])), (449, (.iload_n 3, 450, 3, 0, 0, .null, [], [])), (450, (.iconst 1, 451, 0, 0, 0, .int 1, [], [])), (451, (.iadd, 452, 0, 0, 0, .null, [], [])), (452, (.iaload, 453, 3, 0, 0, .null, [], [])), (453, (.aload_n 0, 454, 0, 0, 0, .null, [], [])), (454, (.iload_n 3, 455, 3, 0, 0, .null, [], [])), (455, (.iconst 2, 456, 0, 0, 0, .int 2, [], [])), (456, (.iadd, 457, 0, 0, 0, .null, [], [])), (457, (.iaload, 458, 3, 0, 0, .null, [], [])), (458, (.aload_n 0, 459, 0, 0, 0, .null, [], [])), (459, (.iload_n 3, 460, 3, 0, 0, .null, [], [])), (460, (.iconst 3, 461, 0, 0, 0, .int 3, [], [])), (461, (.iadd, 462, 0, 0, 0, .null, [], [])), (462, (.iaload, 463, 3, 0, 0, .null, [], [])), (463, (.invokevirtual 58, 466, 99, 4, 1, .ref 9, [], [])), (466, (.aload_n 2, 467, 2, 0, 0, .null, [], [])), (467, (.aload_n 0, 468, 0, 0, 0, .null, [], [])), (468, (.iload_n 3, 469, 3, 0, 0, .null, [], [])), (469, (.iconst 1, 470, 0, 0, 0, .int 1, [], [])), (470, (.iadd, 471, 0, 0, 0, .null, [], [])), (471, (.iaload, 472, 3, 0, 0, .null, [], [])), (472, (.aload_n 0, 473, 0, 0, 0, .null, [], [])), (473, (.iload_n 3, 474, 3, 0, 0, .null, [], [])), (474, (.iconst 2, 475, 0, 0, 0, .int 2, [], [])), (475, (.iadd, 476, 0, 0, 0, .null, [], []))]),
  (509, [(476, (.iaload, 477, 3, 0, 0, .null, [], [])), (477, (.aload_n 0, 478, 0, 0, 0, .null, [], [])), (478, (.iload_n 3, 479, 3, 0, 0, .null, [], [])), (479, (.iconst 3, 480, 0, 0, 0, .int 3, [], [])), (480, (.iadd, 481, 0, 0, 0, .null, [], [])), (481, (.iaload, 482, 3, 0, 0, .null, [], [])), (482, (.invokevirtual 61, 485, 166, 4, 1, .ref 10, [], [])), (485, (.lcmp, 486, 0, 0, 0, .null, [], [])), (486, (.ifCond .eq 635, 489, 1121, 0, 0, .null, [], [])), (489, (.iconst 0, 490, 0, 0, 0, .int 0, [], [])), (490, (.ireturn, 491, 0, 0, 3, .null, [], [])), (491, (.aload_n 1, 492, 1, 0, 0, .null, [], [])), (492, (.aload_n 0, 493, 0, 0, 0, .null, [], [])), (493, (.iload_n 3, 494, 3, 0, 0, .null, [], [])), (494, (.iconst 1, 495, 0, 0, 0, .int 1, [], [])), (495, (.iadd, 496, 0, 0, 0, .null, [], [])), (496, (.iaload, 497, 3, 0, 0, .null, [], [])), (497, (.aload_n 0, 498, 0, 0, 0, .null, [], [])), (498, (.iload_n 3, 499, 3, 0, 0, .null, [], [])), (499, (.iconst 2, 500, 0, 0, 0, .int 2, [], [])), (500, (.iadd, 501, 0, 0, 0, .null, [], [])), (501, (.iaload, 502, 3, 0, 0, .null, [], [])), (502, (.invokevirtual 62, 505, 100, 3, 0, .ref 9, [], [])), (505, (.aload_n 2, 506, 2, 0, 0, .null, [], [])), (506, (.aload_n 0, 507, 0, 0, 0, .null, [], [])), (507, (.iload_n 3, 508, 3, 0, 0, .null, [], [])), (508, (.iconst 1, 509, 0, 0, 0, .int 1, [], [])), (509, (.iadd, 510, 0, 0, 0, .null, [], []))]),
  (543, [(510, (.iaload, 511, 3, 0, 0, .null, [], [])), (511, (.aload_n 0, 512, 0, 0, 0, .null, [], [])), (512, (.iload_n 3, 513, 3, 0, 0, .null, [], [])), (513, (.iconst 2, 514, 0, 0, 0, .int 2, [], [])), (514, (.iadd, 515, 0, 0, 0, .null, [], [])), (515, (.iaload, 516, 3, 0, 0, .null, [], [])), (516, (.invokevirtual 65, 519, 176, 3, 0, .ref 10, [], [])), (519, (.if_icmp .eq 602, 522, 1121, 0, 0, .null, [], [])), (522, (.iconst 0, 523, 0, 0, 0, .int 0, [], [])), (523, (.ireturn, 524, 0, 0, 3, .null, [], [])), (524, (.aload_n 1, 525, 1, 0, 0, .null, [], [])), (525, (.aload_n 0, 526, 0, 0, 0, .null, [], [])), (526, (.iload_n 3, 527, 3, 0, 0, .null, [], [])), (527, (.iconst 1, 528, 0, 0, 0, .int 1, [], [])), (528, (.iadd, 529, 0, 0, 0, .null, [], [])), (529, (.iaload, 530, 3, 0, 0, .null, [], [])), (530, (.aload_n 0, 531, 0, 0, 0, .null, [], [])), (531, (.iload_n 3, 532, 3, 0, 0, .null, [], [])), (532, (.iconst 2, 533, 0, 0, 0, .int 2, [], [])), (533, (.iadd, 534, 0, 0, 0, .null, [], [])), (534, (.iaload, 535, 3, 0, 0, .null, [], [])), (535, (.aload_n 0, 536, 0, 0, 0, .null, [], [])), (536, (.iload_n 3, 537, 3, 0, 0, .null, [], [])), (537, (.iconst 3, 538, 0, 0, 0, .int 3, [], [])), (538, (.iadd, 539, 0, 0, 0, .null, [], [])), (539, (.iaload, 540, 3, 0, 0, .null, [], [])), (540, (.invokevirtual 66, 543, 101, 4, 0, .ref 9, [], [])), (543, (.aload_n 2, 544, 2, 0, 0, .null, [], []))]),
  (575, [(544, (.aload_n 0, 545, 0, 0, 0, .null, [], [])), (545, (.iload_n 3, 546, 3, 0, 0, .null, [], [])), (546, (.iconst 1, 547, 0, 0, 0, .int 1, [], [])), (547, (.iadd, 548, 0, 0, 0, .null, [], [])), (548, (.iaload, 549, 3, 0, 0, .null, [], [])), (549, (.aload_n 0, 550, 0, 0, 0, .null, [], [])), (550, (.iload_n 3, 551, 3, 0, 0, .null, [], [])), (551, (.iconst 2, 552, 0, 0, 0, .int 2, [], [])), (552, (.iadd, 553, 0, 0, 0, .null, [], [])), (553, (.iaload, 554, 3, 0, 0, .null, [], [])), (554, (.aload_n 0, 555, 0, 0, 0, .null, [], [])), (555, (.iload_n 3, 556, 3, 0, 0, .null, [], [])), (556, (.iconst 3, 557, 0, 0, 0, .int 3, [], [])), (557, (.iadd, 558, 0, 0, 0, .null, [], [])), (558, (.iaload, 559, 3, 0, 0, .null, [], [])), (559, (.invokevirtual 69, 562, 177, 4, 0, .ref 10, [], [])), (562, (.if_icmp .eq 559, 565, 1121, 0, 0, .null, [], [])), (565, (.iconst 0, 566, 0, 0, 0, .int 0, [], [])), (566, (.ireturn, 567, 0, 0, 3, .null, [], [])), (567, (.aload_n 1, 568, 1, 0, 0, .null, [], [])), (568, (.aload_n 0, 569, 0, 0, 0, .null, [], [])), (569, (.iload_n 3, 570, 3, 0, 0, .null, [], [])), (570, (.iconst 1, 571, 0, 0, 0, .int 1, [], [])), (571, (.iadd, 572, 0, 0, 0, .null, [], [])), (572, (.iaload, 573, 3, 0, 0, .null, [], [])), (573, (.aload_n 0, 574, 0, 0, 0, .null, [], [])), (574, (.iload_n 3, 575, 3, 0, 0, .null, [], [])), (575, (.iconst 2, 576, 0, 0, 0, .int 2, [], []))]),
  (608, [(576, (.iadd, 577, 0, 0, 0, .null, [], [])), (577, (.iaload, 578, 3, 0, 0, .null, [], [])), (578, (.aload_n 0, 579, 0, 0, 0, .null, [], [])), (579, (.iload_n 3, 580, 3, 0, 0, .null, [], [])), (580, (.iconst 3, 581, 0, 0, 0, .int 3, [], [])), (581, (.iadd, 582, 0, 0, 0, .null, [], [])), (582, (.iaload, 583, 3, 0, 0, .null, [], [])), (583, (.i2l, 584, 0, 0, 0, .null, [], [])), (584, (.bipush 32, 586, 0, 0, 0, .int 32, [], [])), (586, (.lshl, 587, 0, 0, 0, .null, [], [])), (587, (.aload_n 0, 588, 0, 0, 0, .null, [], [])), (588, (.iload_n 3, 589, 3, 0, 0, .null, [], [])), (589, (.iconst 4, 590, 0, 0, 0, .int 4, [], [])), (590, (.iadd, 591, 0, 0, 0, .null, [], [])), (591, (.iaload, 592, 3, 0, 0, .null, [], [])), (592, (.i2l, 593, 0, 0, 0, .null, [], [])), (593, (.ldc2_w 70, 596, 0, 0, 0, .long 4294967295, [], [])), (596, (.land, 597, 0, 0, 0, .null, [], [])), (597, (.lor, 598, 0, 0, 0, .null, [], [])), (598, (.invokevirtual 72, 601, 102, 4, 1, .ref 9, [], [])), (601, (.aload_n 2, 602, 2, 0, 0, .null, [], [])), (602, (.aload_n 0, 603, 0, 0, 0, .null, [], [])), (603, (.iload_n 3, 604, 3, 0, 0, .null, [], [])), (604, (.iconst 1, 605, 0, 0, 0, .int 1, [], [])), (605, (.iadd, 606, 0, 0, 0, .null, [], [])), (606, (.iaload, 607, 3, 0, 0, .null, [], [])), (607, (.aload_n 0, 608, 0, 0, 0, .null, [], [])), (608, (.iload_n 3, 609, 3, 0, 0, .null, [], []))]),
  (645, [(609, (.iconst 2, 610, 0, 0, 0, .int 2, [], [])), (610, (.iadd, 611, 0, 0, 0, .null, [], [])), (611, (.iaload, 612, 3, 0, 0, .null, [], [])), (612, (.aload_n 0, 613, 0, 0, 0, .null, [], [])), (613, (.iload_n 3, 614, 3, 0, 0, .null, [], [])), (614, (.iconst 3, 615, 0, 0, 0, .int 3, [], [])), (615, (.iadd, 616, 0, 0, 0, .null, [], [])), (616, (.iaload, 617, 3, 0, 0, .null, [], [])), (617, (.i2l, 618, 0, 0, 0, .null, [], [])), (618, (.bipush 32, 620, 0, 0, 0, .int 32, [], [])), (620, (.lshl, 621, 0, 0, 0, .null, [], [])), (621, (.aload_n 0, 622, 0, 0, 0, .null, [], [])), (622, (.iload_n 3, 623, 3, 0, 0, .null, [], [])), (623, (.iconst 4, 624, 0, 0, 0, .int 4, [], [])), (624, (.iadd, 625, 0, 0, 0, .null, [], [])), (625, (.iaload, 626, 3, 0, 0, .null, [], [])), (626, (.i2l, 627, 0, 0, 0, .null, [], [])), (627, (.ldc2_w 70, 630, 0, 0, 0, .long 4294967295, [], [])), (630, (.land, 631, 0, 0, 0, .null, [], [])), (631, (.lor, 632, 0, 0, 0, .null, [], [])), (632, (.invokevirtual 76, 635, 184, 4, 1, .ref 10, [], [])), (635, (.lcmp, 636, 0, 0, 0, .null, [], [])), (636, (.ifCond .eq 485, 639, 1121, 0, 0, .null, [], [])), (639, (.iconst 0, 640, 0, 0, 0, .int 0, [], [])), (640, (.ireturn, 641, 0, 0, 3, .null, [], [])), (641, (.aload_n 1, 642, 1, 0, 0, .null, [], [])), (642, (.invokevirtual 77, 645, 103, 1, 0, .ref 9, [], [])), (645, (.aload_n 2, 646, 2, 0, 0, .null, [], []))]),
  (678, [(646, (.invokevirtual 80, 649, 185, 1, 0, .ref 10, [], [])), (649, (.if_icmp .eq 472, 652, 1121, 0, 0, .null, [], [])), (652, (.iconst 0, 653, 0, 0, 0, .int 0, [], [])), (653, (.ireturn, 654, 0, 0, 3, .null, [], [])), (654, (.aload_n 1, 655, 1, 0, 0, .null, [], [])), (655, (.aload_n 0, 656, 0, 0, 0, .null, [], [])), (656, (.iload_n 3, 657, 3, 0, 0, .null, [], [])), (657, (.iconst 1, 658, 0, 0, 0, .int 1, [], [])), (658, (.iadd, 659, 0, 0, 0, .null, [], [])), (659, (.iaload, 660, 3, 0, 0, .null, [], [])), (660, (.aload_n 0, 661, 0, 0, 0, .null, [], [])), (661, (.iload_n 3, 662, 3, 0, 0, .null, [], [])), (662, (.iconst 2, 663, 0, 0, 0, .int 2, [], [])), (663, (.iadd, 664, 0, 0, 0, .null, [], [])), (664, (.iaload, 665, 3, 0, 0, .null, [], [])), (665, (.aload_n 0, 666, 0, 0, 0, .null, [], [])), (666, (.iload_n 3, 667, 3, 0, 0, .null, [], [])), (667, (.iconst 3, 668, 0, 0, 0, .int 3, [], [])), (668, (.iadd, 669, 0, 0, 0, .null, [], [])), (669, (.iaload, 670, 3, 0, 0, .null, [], [])), (670, (.i2l, 671, 0, 0, 0, .null, [], [])), (671, (.bipush 32, 673, 0, 0, 0, .int 32, [], [])), (673, (.lshl, 674, 0, 0, 0, .null, [], [])), (674, (.aload_n 0, 675, 0, 0, 0, .null, [], [])), (675, (.iload_n 3, 676, 3, 0, 0, .null, [], [])), (676, (.iconst 4, 677, 0, 0, 0, .int 4, [], [])), (677, (.iadd, 678, 0, 0, 0, .null, [], [])), (678, (.iaload, 679, 3, 0, 0, .null, [], []))]),
  (711, [(679, (.i2l, 680, 0, 0, 0, .null, [], [])), (680, (.ldc2_w 70, 683, 0, 0, 0, .long 4294967295, [], [])), (683, (.land, 684, 0, 0, 0, .null, [], [])), (684, (.lor, 685, 0, 0, 0, .null, [], [])), (685, (.invokevirtual 81, 688, 104, 4, 1, .ref 9, [], [])), (688, (.aload_n 2, 689, 2, 0, 0, .null, [], [])), (689, (.aload_n 0, 690, 0, 0, 0, .null, [], [])), (690, (.iload_n 3, 691, 3, 0, 0, .null, [], [])), (691, (.iconst 1, 692, 0, 0, 0, .int 1, [], [])), (692, (.iadd, 693, 0, 0, 0, .null, [], [])), (693, (.iaload, 694, 3, 0, 0, .null, [], [])), (694, (.aload_n 0, 695, 0, 0, 0, .null, [], [])), (695, (.iload_n 3, 696, 3, 0, 0, .null, [], [])), (696, (.iconst 2, 697, 0, 0, 0, .int 2, [], [])), (697, (.iadd, 698, 0, 0, 0, .null, [], [])), (698, (.iaload, 699, 3, 0, 0, .null, [], [])), (699, (.aload_n 0, 700, 0, 0, 0, .null, [], [])), (700, (.iload_n 3, 701, 3, 0, 0, .null, [], [])), (701, (.iconst 3, 702, 0, 0, 0, .int 3, [], [])), (702, (.iadd, 703, 0, 0, 0, .null, [], [])), (703, (.iaload, 704, 3, 0, 0, .null, [], [])), (704, (.i2l, 705, 0, 0, 0, .null, [], [])), (705, (.bipush 32, 707, 0, 0, 0, .int 32, [], [])), (707, (.lshl, 708, 0, 0, 0, .null, [], [])), (708, (.aload_n 0, 709, 0, 0, 0, .null, [], [])), (709, (.iload_n 3, 710, 3, 0, 0, .null, [], [])), (710, (.iconst 4, 711, 0, 0, 0, .int 4, [], [])), (711, (.iadd, 712, 0, 0, 0, .null, [], []))]),
  (747, [(712, (.iaload, 713, 3, 0, 0, .null, [], [])), (713, (.i2l, 714, 0, 0, 0, .null, [], [])), (714, (.ldc2_w 70, 717, 0, 0, 0, .long 4294967295, [], [])), (717, (.land, 718, 0, 0, 0, .null, [], [])), (718, (.lor, 719, 0, 0, 0, .null, [], [])), (719, (.invokevirtual 84, 722, 186, 4, 1, .ref 10, [], [])), (722, (.lcmp, 723, 0, 0, 0, .null, [], [])), (723, (.ifCond .eq 398, 726, 1121, 0, 0, .null, [], [])), (726, (.iconst 0, 727, 0, 0, 0, .int 0, [], [])), (727, (.ireturn, 728, 0, 0, 3, .null, [], [])), (728, (.aload_n 1, 729, 1, 0, 0, .null, [], [])), (729, (.aload_n 0, 730, 0, 0, 0, .null, [], [])), (730, (.iload_n 3, 731, 3, 0, 0, .null, [], [])), (731, (.iconst 1, 732, 0, 0, 0, .int 1, [], [])), (732, (.iadd, 733, 0, 0, 0, .null, [], [])), (733, (.iaload, 734, 3, 0, 0, .null, [], [])), (734, (.aload_n 0, 735, 0, 0, 0, .null, [], [])), (735, (.iload_n 3, 736, 3, 0, 0, .null, [], [])), (736, (.iconst 2, 737, 0, 0, 0, .int 2, [], [])), (737, (.iadd, 738, 0, 0, 0, .null, [], [])), (738, (.iaload, 739, 3, 0, 0, .null, [], [])), (739, (.aload_n 0, 740, 0, 0, 0, .null, [], [])), (740, (.iload_n 3, 741, 3, 0, 0, .null, [], [])), (741, (.iconst 3, 742, 0, 0, 0, .int 3, [], [])), (742, (.iadd, 743, 0, 0, 0, .null, [], [])), (743, (.iaload, 744, 3, 0, 0, .null, [], [])), (744, (.invokevirtual 85, 747, 108, 4, 0, .ref 9, [], [])), (747, (.aload_n 2, 748, 2, 0, 0, .null, [], []))]),
  (779, [(748, (.aload_n 0, 749, 0, 0, 0, .null, [], [])), (749, (.iload_n 3, 750, 3, 0, 0, .null, [], [])), (750, (.iconst 1, 751, 0, 0, 0, .int 1, [], [])), (751, (.iadd, 752, 0, 0, 0, .null, [], [])), (752, (.iaload, 753, 3, 0, 0, .null, [], [])), (753, (.aload_n 0, 754, 0, 0, 0, .null, [], [])), (754, (.iload_n 3, 755, 3, 0, 0, .null, [], [])), (755, (.iconst 2, 756, 0, 0, 0, .int 2, [], [])), (756, (.iadd, 757, 0, 0, 0, .null, [], [])), (757, (.iaload, 758, 3, 0, 0, .null, [], [])), (758, (.aload_n 0, 759, 0, 0, 0, .null, [], [])), (759, (.iload_n 3, 760, 3, 0, 0, .null, [], [])), (760, (.iconst 3, 761, 0, 0, 0, .int 3, [], [])), (761, (.iadd, 762, 0, 0, 0, .null, [], [])), (762, (.iaload, 763, 3, 0, 0, .null, [], [])), (763, (.invokevirtual 88, 766, 187, 4, 0, .ref 10, [], [])), (766, (.if_icmp .eq 355, 769, 1121, 0, 0, .null, [], [])), (769, (.iconst 0, 770, 0, 0, 0, .int 0, [], [])), (770, (.ireturn, 771, 0, 0, 3, .null, [], [])), (771, (.aload_n 1, 772, 1, 0, 0, .null, [], [])), (772, (.aload_n 0, 773, 0, 0, 0, .null, [], [])), (773, (.iload_n 3, 774, 3, 0, 0, .null, [], [])), (774, (.iconst 1, 775, 0, 0, 0, .int 1, [], [])), (775, (.iadd, 776, 0, 0, 0, .null, [], [])), (776, (.iaload, 777, 3, 0, 0, .null, [], [])), (777, (.aload_n 0, 778, 0, 0, 0, .null, [], [])), (778, (.iload_n 3, 779, 3, 0, 0, .null, [], [])), (779, (.iconst 2, 780, 0, 0, 0, .int 2, [], []))]),
  (813, [(780, (.iadd, 781, 0, 0, 0, .null, [], [])), (781, (.iaload, 782, 3, 0, 0, .null, [], [])), (782, (.invokevirtual 89, 785, 109, 3, 0, .ref 9, [], [])), (785, (.aload_n 2, 786, 2, 0, 0, .null, [], [])), (786, (.aload_n 0, 787, 0, 0, 0, .null, [], [])), (787, (.iload_n 3, 788, 3, 0, 0, .null, [], [])), (788, (.iconst 1, 789, 0, 0, 0, .int 1, [], [])), (789, (.iadd, 790, 0, 0, 0, .null, [], [])), (790, (.iaload, 791, 3, 0, 0, .null, [], [])), (791, (.aload_n 0, 792, 0, 0, 0, .null, [], [])), (792, (.iload_n 3, 793, 3, 0, 0, .null, [], [])), (793, (.iconst 2, 794, 0, 0, 0, .int 2, [], [])), (794, (.iadd, 795, 0, 0, 0, .null, [], [])), (795, (.iaload, 796, 3, 0, 0, .null, [], [])), (796, (.invokevirtual 92, 799, 188, 3, 0, .ref 10, [], [])), (799, (.if_icmp .eq 322, 802, 1121, 0, 0, .null, [], [])), (802, (.iconst 0, 803, 0, 0, 0, .int 0, [], [])), (803, (.ireturn, 804, 0, 0, 3, .null, [], [])), (804, (.aload_n 1, 805, 1, 0, 0, .null, [], [])), (805, (.aload_n 0, 806, 0, 0, 0, .null, [], [])), (806, (.iload_n 3, 807, 3, 0, 0, .null, [], [])), (807, (.iconst 1, 808, 0, 0, 0, .int 1, [], [])), (808, (.iadd, 809, 0, 0, 0, .null, [], [])), (809, (.iaload, 810, 3, 0, 0, .null, [], [])), (810, (.aload_n 0, 811, 0, 0, 0, .null, [], [])), (811, (.iload_n 3, 812, 3, 0, 0, .null, [], [])), (812, (.iconst 2, 813, 0, 0, 0, .int 2, [], [])), (813, (.iadd, 814, 0, 0, 0, .null, [], []))]),
  (847, [(814, (.iaload, 815, 3, 0, 0, .null, [], [])), (815, (.invokevirtual 93, 818, 111, 3, 0, .ref 9, [], [])), (818, (.aload_n 2, 819, 2, 0, 0, .null, [], [])), (819, (.aload_n 0, 820, 0, 0, 0, .null, [], [])), (820, (.iload_n 3, 821, 3, 0, 0, .null, [], [])), (821, (.iconst 1, 822, 0, 0, 0, .int 1, [], [])), (822, (.iadd, 823, 0, 0, 0, .null, [], [])), (823, (.iaload, 824, 3, 0, 0, .null, [], [])), (824, (.aload_n 0, 825, 0, 0, 0, .null, [], [])), (825, (.iload_n 3, 826, 3, 0, 0, .null, [], [])), (826, (.iconst 2, 827, 0, 0, 0, .int 2, [], [])), (827, (.iadd, 828, 0, 0, 0, .null, [], [])), (828, (.iaload, 829, 3, 0, 0, .null, [], [])), (829, (.invokevirtual 96, 832, 189, 3, 0, .ref 10, [], [])), (832, (.if_icmp .eq 289, 835, 1121, 0, 0, .null, [], [])), (835, (.iconst 0, 836, 0, 0, 0, .int 0, [], [])), (836, (.ireturn, 837, 0, 0, 3, .null, [], [])), (837, (.aload_n 1, 838, 1, 0, 0, .null, [], [])), (838, (.aload_n 0, 839, 0, 0, 0, .null, [], [])), (839, (.iload_n 3, 840, 3, 0, 0, .null, [], [])), (840, (.iconst 1, 841, 0, 0, 0, .int 1, [], [])), (841, (.iadd, 842, 0, 0, 0, .null, [], [])), (842, (.iaload, 843, 3, 0, 0, .null, [], [])), (843, (.aload_n 0, 844, 0, 0, 0, .null, [], [])), (844, (.iload_n 3, 845, 3, 0, 0, .null, [], [])), (845, (.iconst 2, 846, 0, 0, 0, .int 2, [], [])), (846, (.iadd, 847, 0, 0, 0, .null, [], [])), (847, (.iaload, 848, 3, 0, 0, .null, [], []))]),
  (881, [(848, (.invokevirtual 97, 851, 112, 3, 0, .ref 9, [], [])), (851, (.aload_n 2, 852, 2, 0, 0, .null, [], [])), (852, (.aload_n 0, 853, 0, 0, 0, .null, [], [])), (853, (.iload_n 3, 854, 3, 0, 0, .null, [], [])), (854, (.iconst 1, 855, 0, 0, 0, .int 1, [], [])), (855, (.iadd, 856, 0, 0, 0, .null, [], [])), (856, (.iaload, 857, 3, 0, 0, .null, [], [])), (857, (.aload_n 0, 858, 0, 0, 0, .null, [], [])), (858, (.iload_n 3, 859, 3, 0, 0, .null, [], [])), (859, (.iconst 2, 860, 0, 0, 0, .int 2, [], [])), (860, (.iadd, 861, 0, 0, 0, .null, [], [])), (861, (.iaload, 862, 3, 0, 0, .null, [], [])), (862, (.invokevirtual 100, 865, 190, 3, 0, .ref 10, [], [])), (865, (.if_icmp .eq 256, 868, 1121, 0, 0, .null, [], [])), (868, (.iconst 0, 869, 0, 0, 0, .int 0, [], [])), (869, (.ireturn, 870, 0, 0, 3, .null, [], [])), (870, (.aload_n 1, 871, 1, 0, 0, .null, [], [])), (871, (.aload_n 0, 872, 0, 0, 0, .null, [], [])), (872, (.iload_n 3, 873, 3, 0, 0, .null, [], [])), (873, (.iconst 1, 874, 0, 0, 0, .int 1, [], [])), (874, (.iadd, 875, 0, 0, 0, .null, [], [])), (875, (.iaload, 876, 3, 0, 0, .null, [], [])), (876, (.aload_n 0, 877, 0, 0, 0, .null, [], [])), (877, (.iload_n 3, 878, 3, 0, 0, .null, [], [])), (878, (.iconst 2, 879, 0, 0, 0, .int 2, [], [])), (879, (.iadd, 880, 0, 0, 0, .null, [], [])), (880, (.iaload, 881, 3, 0, 0, .null, [], [])), (881, (.invokevirtual 101, 884, 113, 3, 0, .ref 9, [], []))]),
  (917, [(884, (.aload_n 2, 885, 2, 0, 0, .null, [], [])), (885, (.aload_n 0, 886, 0, 0, 0, .null, [], [])), (886, (.iload_n 3, 887, 3, 0, 0, .null, [], [])), (887, (.iconst 1, 888, 0, 0, 0, .int 1, [], [])), (888, (.iadd, 889, 0, 0, 0, .null, [], [])), (889, (.iaload, 890, 3, 0, 0, .null, [], [])), (890, (.aload_n 0, 891, 0, 0, 0, .null, [], [])), (891, (.iload_n 3, 892, 3, 0, 0, .null, [], [])), (892, (.iconst 2, 893, 0, 0, 0, .int 2, [], [])), (893, (.iadd, 894, 0, 0, 0, .null, [], [])), (894, (.iaload, 895, 3, 0, 0, .null, [], [])), (895, (.invokevirtual 104, 898, 192, 3, 0, .ref 10, [], [])), (898, (.if_icmp .eq 223, 901, 1121, 0, 0, .null, [], [])), (901, (.iconst 0, 902, 0, 0, 0, .int 0, [], [])), (902, (.ireturn, 903, 0, 0, 3, .null, [], [])), (903, (.aload_n 1, 904, 1, 0, 0, .null, [], [])), (904, (.aload_n 0, 905, 0, 0, 0, .null, [], [])), (905, (.iload_n 3, 906, 3, 0, 0, .null, [], [])), (906, (.iconst 1, 907, 0, 0, 0, .int 1, [], [])), (907, (.iadd, 908, 0, 0, 0, .null, [], [])), (908, (.iaload, 909, 3, 0, 0, .null, [], [])), (909, (.invokevirtual 105, 912, 114, 2, 0, .ref 9, [], [])), (912, (.aload_n 2, 913, 2, 0, 0, .null, [], [])), (913, (.aload_n 0, 914, 0, 0, 0, .null, [], [])), (914, (.iload_n 3, 915, 3, 0, 0, .null, [], [])), (915, (.iconst 1, 916, 0, 0, 0, .int 1, [], [])), (916, (.iadd, 917, 0, 0, 0, .null, [], [])), (917, (.iaload, 918, 3, 0, 0, .null, [], []))]),
  (955, [(918, (.invokevirtual 108, 921, 193, 2, 0, .ref 10, [], [])), (921, (.if_icmp .eq 200, 924, 1121, 0, 0, .null, [], [])), (924, (.iconst 0, 925, 0, 0, 0, .int 0, [], [])), (925, (.ireturn, 926, 0, 0, 3, .null, [], [])), (926, (.aload_n 1, 927, 1, 0, 0, .null, [], [])), (927, (.aload_n 0, 928, 0, 0, 0, .null, [], [])), (928, (.iload_n 3, 929, 3, 0, 0, .null, [], [])), (929, (.iconst 1, 930, 0, 0, 0, .int 1, [], [])), (930, (.iadd, 931, 0, 0, 0, .null, [], [])), (931, (.iaload, 932, 3, 0, 0, .null, [], [])), (932, (.invokevirtual 109, 935, 115, 2, 0, .ref 9, [], [])), (935, (.aload_n 2, 936, 2, 0, 0, .null, [], [])), (936, (.aload_n 0, 937, 0, 0, 0, .null, [], [])), (937, (.iload_n 3, 938, 3, 0, 0, .null, [], [])), (938, (.iconst 1, 939, 0, 0, 0, .int 1, [], [])), (939, (.iadd, 940, 0, 0, 0, .null, [], [])), (940, (.iaload, 941, 3, 0, 0, .null, [], [])), (941, (.invokevirtual 112, 944, 194, 2, 0, .ref 10, [], [])), (944, (.if_icmp .eq 177, 947, 1121, 0, 0, .null, [], [])), (947, (.iconst 0, 948, 0, 0, 0, .int 0, [], [])), (948, (.ireturn, 949, 0, 0, 3, .null, [], [])), (949, (.aload_n 1, 950, 1, 0, 0, .null, [], [])), (950, (.aload_n 0, 951, 0, 0, 0, .null, [], [])), (951, (.iload_n 3, 952, 3, 0, 0, .null, [], [])), (952, (.iconst 1, 953, 0, 0, 0, .int 1, [], [])), (953, (.iadd, 954, 0, 0, 0, .null, [], [])), (954, (.iaload, 955, 3, 0, 0, .null, [], [])), (955, (.aload_n 0, 956, 0, 0, 0, .null, [], []))]),
  (987, [(956, (.iload_n 3, 957, 3, 0, 0, .null, [], [])), (957, (.iconst 2, 958, 0, 0, 0, .int 2, [], [])), (958, (.iadd, 959, 0, 0, 0, .null, [], [])), (959, (.iaload, 960, 3, 0, 0, .null, [], [])), (960, (.aload_n 0, 961, 0, 0, 0, .null, [], [])), (961, (.iload_n 3, 962, 3, 0, 0, .null, [], [])), (962, (.iconst 3, 963, 0, 0, 0, .int 3, [], [])), (963, (.iadd, 964, 0, 0, 0, .null, [], [])), (964, (.iaload, 965, 3, 0, 0, .null, [], [])), (965, (.invokevirtual 113, 968, 116, 4, 0, .ref 9, [], [])), (968, (.aload_n 2, 969, 2, 0, 0, .null, [], [])), (969, (.aload_n 0, 970, 0, 0, 0, .null, [], [])), (970, (.iload_n 3, 971, 3, 0, 0, .null, [], [])), (971, (.iconst 1, 972, 0, 0, 0, .int 1, [], [])), (972, (.iadd, 973, 0, 0, 0, .null, [], [])), (973, (.iaload, 974, 3, 0, 0, .null, [], [])), (974, (.aload_n 0, 975, 0, 0, 0, .null, [], [])), (975, (.iload_n 3, 976, 3, 0, 0, .null, [], [])), (976, (.iconst 2, 977, 0, 0, 0, .int 2, [], [])), (977, (.iadd, 978, 0, 0, 0, .null, [], [])), (978, (.iaload, 979, 3, 0, 0, .null, [], [])), (979, (.aload_n 0, 980, 0, 0, 0, .null, [], [])), (980, (.iload_n 3, 981, 3, 0, 0, .null, [], [])), (981, (.iconst 3, 982, 0, 0, 0, .int 3, [], [])), (982, (.iadd, 983, 0, 0, 0, .null, [], [])), (983, (.iaload, 984, 3, 0, 0, .null, [], [])), (984, (.invokevirtual 116, 987, 196, 4, 0, .ref 10, [], [])), (987, (.if_icmp .eq 134, 990, 1121, 0, 0, .null, [], []))]),
  (1019, [(990, (.iconst 0, 991, 0, 0, 0, .int 0, [], [])), (991, (.ireturn, 992, 0, 0, 3, .null, [], [])), (992, (.aload_n 1, 993, 1, 0, 0, .null, [], [])), (993, (.aload_n 0, 994, 0, 0, 0, .null, [], [])), (994, (.iload_n 3, 995, 3, 0, 0, .null, [], [])), (995, (.iconst 1, 996, 0, 0, 0, .int 1, [], [])), (996, (.iadd, 997, 0, 0, 0, .null, [], [])), (997, (.iaload, 998, 3, 0, 0, .null, [], [])), (998, (.aload_n 0, 999, 0, 0, 0, .null, [], [])), (999, (.iload_n 3, 1000, 3, 0, 0, .null, [], [])), (1000, (.iconst 2, 1001, 0, 0, 0, .int 2, [], [])), (1001, (.iadd, 1002, 0, 0, 0, .null, [], [])), (1002, (.iaload, 1003, 3, 0, 0, .null, [], [])), (1003, (.aload_n 0, 1004, 0, 0, 0, .null, [], [])), (1004, (.iload_n 3, 1005, 3, 0, 0, .null, [], [])), (1005, (.iconst 3, 1006, 0, 0, 0, .int 3, [], [])), (1006, (.iadd, 1007, 0, 0, 0, .null, [], [])), (1007, (.iaload, 1008, 3, 0, 0, .null, [], [])), (1008, (.invokevirtual 117, 1011, 117, 4, 0, .ref 9, [], [])), (1011, (.aload_n 2, 1012, 2, 0, 0, .null, [], [])), (1012, (.aload_n 0, 1013, 0, 0, 0, .null, [], [])), (1013, (.iload_n 3, 1014, 3, 0, 0, .null, [], [])), (1014, (.iconst 1, 1015, 0, 0, 0, .int 1, [], [])), (1015, (.iadd, 1016, 0, 0, 0, .null, [], [])), (1016, (.iaload, 1017, 3, 0, 0, .null, [], [])), (1017, (.aload_n 0, 1018, 0, 0, 0, .null, [], [])), (1018, (.iload_n 3, 1019, 3, 0, 0, .null, [], [])), (1019, (.iconst 2, 1020, 0, 0, 0, .int 2, [], []))]),
  (1051, [(1020, (.iadd, 1021, 0, 0, 0, .null, [], [])), (1021, (.iaload, 1022, 3, 0, 0, .null, [], [])), (1022, (.aload_n 0, 1023, 0, 0, 0, .null, [], [])), (1023, (.iload_n 3, 1024, 3, 0, 0, .null, [], [])), (1024, (.iconst 3, 1025, 0, 0, 0, .int 3, [], [])), (1025, (.iadd, 1026, 0, 0, 0, .null, [], [])), (1026, (.iaload, 1027, 3, 0, 0, .null, [], [])), (1027, (.invokevirtual 120, 1030, 197, 4, 0, .ref 10, [], [])), (1030, (.if_icmp .eq 91, 1033, 1121, 0, 0, .null, [], [])), (1033, (.iconst 0, 1034, 0, 0, 0, .int 0, [], [])), (1034, (.ireturn, 1035, 0, 0, 3, .null, [], [])), (1035, (.aload_n 1, 1036, 1, 0, 0, .null, [], [])), (1036, (.aload_n 0, 1037, 0, 0, 0, .null, [], [])), (1037, (.iload_n 3, 1038, 3, 0, 0, .null, [], [])), (1038, (.iconst 1, 1039, 0, 0, 0, .int 1, [], [])), (1039, (.iadd, 1040, 0, 0, 0, .null, [], [])), (1040, (.iaload, 1041, 3, 0, 0, .null, [], [])), (1041, (.aload_n 0, 1042, 0, 0, 0, .null, [], [])), (1042, (.iload_n 3, 1043, 3, 0, 0, .null, [], [])), (1043, (.iconst 2, 1044, 0, 0, 0, .int 2, [], [])), (1044, (.iadd, 1045, 0, 0, 0, .null, [], [])), (1045, (.iaload, 1046, 3, 0, 0, .null, [], [])), (1046, (.aload_n 0, 1047, 0, 0, 0, .null, [], [])), (1047, (.iload_n 3, 1048, 3, 0, 0, .null, [], [])), (1048, (.iconst 3, 1049, 0, 0, 0, .int 3, [], [])), (1049, (.iadd, 1050, 0, 0, 0, .null, [], [])), (1050, (.iaload, 1051, 3, 0, 0, .null, [], [])), (1051, (.aload_n 0, 1052, 0, 0, 0, .null, [], []))]),
  (1081, [(1052, (.iload_n 3, 1053, 3, 0, 0, .null, [], [])), (1053, (.iconst 4, 1054, 0, 0, 0, .int 4, [], [])), (1054, (.iadd, 1055, 0, 0, 0, .null, [], [])), (1055, (.iaload, 1056, 3, 0, 0, .null, [], [])), (1056, (.aload_n 0, 1057, 0, 0, 0, .null, [], [])), (1057, (.iload_n 3, 1058, 3, 0, 0, .null, [], [])), (1058, (.iconst 5, 1059, 0, 0, 0, .int 5, [], [])), (1059, (.iadd, 1060, 0, 0, 0, .null, [], [])), (1060, (.iaload, 1061, 3, 0, 0, .null, [], [])), (1061, (.invokevirtual 121, 1064, 118, 6, 0, .ref 9, [], [])), (1064, (.aload_n 2, 1065, 2, 0, 0, .null, [], [])), (1065, (.aload_n 0, 1066, 0, 0, 0, .null, [], [])), (1066, (.iload_n 3, 1067, 3, 0, 0, .null, [], [])), (1067, (.iconst 1, 1068, 0, 0, 0, .int 1, [], [])), (1068, (.iadd, 1069, 0, 0, 0, .null, [], [])), (1069, (.iaload, 1070, 3, 0, 0, .null, [], [])), (1070, (.aload_n 0, 1071, 0, 0, 0, .null, [], [])), (1071, (.iload_n 3, 1072, 3, 0, 0, .null, [], [])), (1072, (.iconst 2, 1073, 0, 0, 0, .int 2, [], [])), (1073, (.iadd, 1074, 0, 0, 0, .null, [], [])), (1074, (.iaload, 1075, 3, 0, 0, .null, [], [])), (1075, (.aload_n 0, 1076, 0, 0, 0, .null, [], [])), (1076, (.iload_n 3, 1077, 3, 0, 0, .null, [], [])), (1077, (.iconst 3, 1078, 0, 0, 0, .int 3, [], [])), (1078, (.iadd, 1079, 0, 0, 0, .null, [], [])), (1079, (.iaload, 1080, 3, 0, 0, .null, [], [])), (1080, (.aload_n 0, 1081, 0, 0, 0, .null, [], [])), (1081, (.iload_n 3, 1082, 3, 0, 0, .null, [], []))]),
  (1119, [(1082, (.iconst 4, 1083, 0, 0, 0, .int 4, [], [])), (1083, (.iadd, 1084, 0, 0, 0, .null, [], [])), (1084, (.iaload, 1085, 3, 0, 0, .null, [], [])), (1085, (.aload_n 0, 1086, 0, 0, 0, .null, [], [])), (1086, (.iload_n 3, 1087, 3, 0, 0, .null, [], [])), (1087, (.iconst 5, 1088, 0, 0, 0, .int 5, [], [])), (1088, (.iadd, 1089, 0, 0, 0, .null, [], [])), (1089, (.iaload, 1090, 3, 0, 0, .null, [], [])), (1090, (.invokevirtual 125, 1093, 198, 6, 0, .ref 10, [], [])), (1093, (.if_icmp .eq 28, 1096, 1121, 0, 0, .null, [], [])), (1096, (.iconst 0, 1097, 0, 0, 0, .int 0, [], [])), (1097, (.ireturn, 1098, 0, 0, 3, .null, [], [])), (1098, (.aload_n 1, 1099, 1, 0, 0, .null, [], [])), (1099, (.aload_n 0, 1100, 0, 0, 0, .null, [], [])), (1100, (.iload_n 3, 1101, 3, 0, 0, .null, [], [])), (1101, (.iconst 1, 1102, 0, 0, 0, .int 1, [], [])), (1102, (.iadd, 1103, 0, 0, 0, .null, [], [])), (1103, (.iaload, 1104, 3, 0, 0, .null, [], [])), (1104, (.invokevirtual 126, 1107, 119, 2, 0, .ref 9, [], [])), (1107, (.aload_n 2, 1108, 2, 0, 0, .null, [], [])), (1108, (.aload_n 0, 1109, 0, 0, 0, .null, [], [])), (1109, (.iload_n 3, 1110, 3, 0, 0, .null, [], [])), (1110, (.iconst 1, 1111, 0, 0, 0, .int 1, [], [])), (1111, (.iadd, 1112, 0, 0, 0, .null, [], [])), (1112, (.iaload, 1113, 3, 0, 0, .null, [], [])), (1113, (.invokevirtual 129, 1116, 199, 2, 0, .ref 10, [], [])), (1116, (.if_icmp .eq 5, 1119, 1121, 0, 0, .null, [], [])), (1119, (.iconst 0, 1120, 0, 0, 0, .int 0, [], []))]),
  (1128, [(1120, (.ireturn, 1121, 0, 0, 3, .null, [], [])), (1121, (.iinc 3 6, 1124, 3, 0, 0, .int 6, [], [])), (1124, (.goto (-1106), 1127, 18, 0, 0, .null, [], [])), (1127, (.iconst 1, 1128, 0, 0, 0, .int 1, [], [])), (1128, (.ireturn, 1129, 0, 0, 3, .null, [], []))])]
def zc_Law_law : zCd := zFd zl_Law_law
abbrev m_JInt_bitCount : Nat := 0
abbrev m_JMath_floorDiv : Nat := 1
abbrev m_JMath_floorMod : Nat := 2
abbrev m_JArr_fillJ : Nat := 3
abbrev m_JArr_fillI : Nat := 4
abbrev m_Book_init : Nat := 5
abbrev m_Book_hasClock : Nat := 6
abbrev m_Book_stampAt : Nat := 7
abbrev m_Book_putStamp : Nat := 8
abbrev m_Book_startWith : Nat := 9
abbrev m_Book_copyFrom : Nat := 10
abbrev m_Book_stampsOf : Nat := 11
abbrev m_Book_allStamps : Nat := 12
abbrev m_Book_unheardBeacons : Nat := 13
abbrev m_Book_isHeard : Nat := 14
abbrev m_Book_heardByBoth : Nat := 15
abbrev m_Book_canMove : Nat := 16
abbrev m_Book_moveStamps : Nat := 17
abbrev m_Chains_init : Nat := 18
abbrev m_Chains_renew : Nat := 19
abbrev m_Chains_weightOf : Nat := 20
abbrev m_Chains_reachingPairs : Nat := 21
abbrev m_Chains_reachedFrom : Nat := 22
abbrev m_Chains_reaches : Nat := 23
abbrev m_Chains_aimAt : Nat := 24
abbrev m_Chains_improve : Nat := 25
abbrev m_Chains_weightBy : Nat := 26
abbrev m_Chains_reachesAim : Nat := 27
abbrev m_Chains_costToAim : Nat := 28
abbrev m_Chains_hopsToAim : Nat := 29
abbrev m_Chains_nextToAim : Nat := 30
abbrev m_Drawer_init : Nat := 31
abbrev m_Drawer_fill : Nat := 32
abbrev m_Drawer_stampBySeed : Nat := 33
abbrev m_Drawer_next : Nat := 34
abbrev m_Line_init : Nat := 35
abbrev m_Line_fit : Nat := 36
abbrev m_Line_judge : Nat := 37
abbrev m_Line_strikeFarthest : Nat := 38
abbrev m_Line_sumUp : Nat := 39
abbrev m_Line_findFarthest : Nat := 40
abbrev m_Line_isLeft : Nat := 41
abbrev m_Line_farOf : Nat := 42
abbrev m_Line_partsUp : Nat := 43
abbrev m_Line_costOfGood : Nat := 44
abbrev m_Sheet_init : Nat := 45
abbrev m_Sheet_isNothing : Nat := 46
abbrev m_Sheet_renew : Nat := 47
abbrev m_Sheet_hasCell : Nat := 48
abbrev m_Sheet_putCell : Nat := 49
abbrev m_Sheet_firstFault : Nat := 50
abbrev m_Sheet_stampIn : Nat := 51
abbrev m_Tape_init : Nat := 52
abbrev m_Tape_append : Nat := 53
abbrev m_Tape_byteAt : Nat := 54
abbrev m_Tape_behindRun : Nat := 55
abbrev m_Text_init : Nat := 56
abbrev m_Text_readAll : Nat := 57
abbrev m_Text_startOver : Nat := 58
abbrev m_Text_takeHead : Nat := 59
abbrev m_Text_takeLine : Nat := 60
abbrev m_Text_takeHear : Nat := 61
abbrev m_Text_takeLimit : Nat := 62
abbrev m_Text_takeLeast : Nat := 63
abbrev m_Text_takeNumber : Nat := 64
abbrev m_Text_takeSign : Nat := 65
abbrev m_Text_refuse : Nat := 66
abbrev m_Text_nextToken : Nat := 67
abbrev m_Text_evaluate : Nat := 68
abbrev m_Text_isName : Nat := 69
abbrev m_Time_init : Nat := 70
abbrev m_Time_startAt : Nat := 71
abbrev m_Time_takeBy : Nat := 72
abbrev m_Time_subtract : Nat := 73
abbrev m_Time_product : Nat := 74
abbrev m_Time_total : Nat := 75
abbrev m_Time_difference : Nat := 76
abbrev m_Time_nearest : Nat := 77
abbrev m_Web_init : Nat := 78
abbrev m_Web_touch : Nat := 79
abbrev m_Web_touchAll : Nat := 80
abbrev m_Web_lineOf : Nat := 81
abbrev m_Web_isKind : Nat := 82
abbrev m_Web_linesOfKind : Nat := 83
abbrev m_Web_goodLinesFrom : Nat := 84
abbrev m_Web_goodLinesTo : Nat := 85
abbrev m_Web_allStrikes : Nat := 86
abbrev m_BL_init : Nat := 87
abbrev m_BL_feed : Nat := 88
abbrev m_BL_end : Nat := 89
abbrev m_BL_text : Nat := 90
abbrev m_BL_dropImages : Nat := 91
abbrev m_BL_fault : Nat := 92
abbrev m_BL_rule : Nat := 93
abbrev m_BL_stamp : Nat := 94
abbrev m_BL_clock : Nat := 95
abbrev m_BL_line : Nat := 96
abbrev m_BL_sum : Nat := 97
abbrev m_BL_struck : Nat := 98
abbrev m_BL_far : Nat := 99
abbrev m_BL_cost : Nat := 100
abbrev m_BL_chain : Nat := 101
abbrev m_BL_taken : Nat := 102
abbrev m_BL_ok : Nat := 103
abbrev m_BL_there : Nat := 104
abbrev m_BL_takeAlong : Nat := 105
abbrev m_BL_freshChains : Nat := 106
abbrev m_BL_toldTime : Nat := 107
abbrev m_BL_hear : Nat := 108
abbrev m_BL_lose : Nat := 109
abbrev m_BL_replaceStamp : Nat := 110
abbrev m_BL_shift : Nat := 111
abbrev m_BL_set : Nat := 112
abbrev m_BL_draw : Nat := 113
abbrev m_BL_keep : Nat := 114
abbrev m_BL_back : Nat := 115
abbrev m_BL_sheet : Nat := 116
abbrev m_BL_lay : Nat := 117
abbrev m_BL_read : Nat := 118
abbrev m_BL_count : Nat := 119
abbrev m_BL_keptImages : Nat := 120
abbrev m_BL_isPair : Nat := 121
abbrev m_BL_isBeacon : Nat := 122
abbrev m_BL_isClockCount : Nat := 123
abbrev m_BL_isLimit : Nat := 124
abbrev m_BL_isLeast : Nat := 125
abbrev m_BL_isImage : Nat := 126
abbrev m_BL_isSheet : Nat := 127
abbrev m_BL_isLane : Nat := 128
abbrev m_Mo_init : Nat := 129
abbrev m_Mo_in : Nat := 130
abbrev m_Mo_flag : Nat := 131
abbrev m_Mo_empties : Nat := 132
abbrev m_Mo_at : Nat := 133
abbrev m_Mo_feed : Nat := 134
abbrev m_Mo_end : Nat := 135
abbrev m_Mo_requires : Nat := 136
abbrev m_Mo_byteAt : Nat := 137
abbrev m_Mo_is : Nat := 138
abbrev m_Mo_lineNow : Nat := 139
abbrev m_Mo_reads : Nat := 140
abbrev m_Mo_numberNow : Nat := 141
abbrev m_Mo_readNumber : Nat := 142
abbrev m_Mo_readStop : Nat := 143
abbrev m_Mo_readHear : Nat := 144
abbrev m_Mo_readLine : Nat := 145
abbrev m_Mo_text : Nat := 146
abbrev m_Mo_fault : Nat := 147
abbrev m_Mo_isClock : Nat := 148
abbrev m_Mo_isBeacon : Nat := 149
abbrev m_Mo_stampsOf : Nat := 150
abbrev m_Mo_stamps : Nat := 151
abbrev m_Mo_unheard : Nat := 152
abbrev m_Mo_rule : Nat := 153
abbrev m_Mo_stamp : Nat := 154
abbrev m_Mo_sums : Nat := 155
abbrev m_Mo_den : Nat := 156
abbrev m_Mo_farOf : Nat := 157
abbrev m_Mo_findsFarthest : Nat := 158
abbrev m_Mo_fits : Nat := 159
abbrev m_Mo_upBy : Nat := 160
abbrev m_Mo_costOfLine : Nat := 161
abbrev m_Mo_areTwo : Nat := 162
abbrev m_Mo_line : Nat := 163
abbrev m_Mo_sum : Nat := 164
abbrev m_Mo_struck : Nat := 165
abbrev m_Mo_far : Nat := 166
abbrev m_Mo_findsCosts : Nat := 167
abbrev m_Mo_isLess : Nat := 168
abbrev m_Mo_findsLeast : Nat := 169
abbrev m_Mo_findsChain : Nat := 170
abbrev m_Mo_reaches : Nat := 171
abbrev m_Mo_reachable : Nat := 172
abbrev m_Mo_ofLines : Nat := 173
abbrev m_Mo_goodOf : Nat := 174
abbrev m_Mo_clock : Nat := 175
abbrev m_Mo_cost : Nat := 176
abbrev m_Mo_chain : Nat := 177
abbrev m_Mo_times : Nat := 178
abbrev m_Mo_plus : Nat := 179
abbrev m_Mo_nearest : Nat := 180
abbrev m_Mo_takes : Nat := 181
abbrev m_Mo_goes : Nat := 182
abbrev m_Mo_reachesOne : Nat := 183
abbrev m_Mo_taken : Nat := 184
abbrev m_Mo_ok : Nat := 185
abbrev m_Mo_there : Nat := 186
abbrev m_Mo_hear : Nat := 187
abbrev m_Mo_lose : Nat := 188
abbrev m_Mo_shift : Nat := 189
abbrev m_Mo_set : Nat := 190
abbrev m_Mo_gets : Nat := 191
abbrev m_Mo_draw : Nat := 192
abbrev m_Mo_keep : Nat := 193
abbrev m_Mo_back : Nat := 194
abbrev m_Mo_isSheet : Nat := 195
abbrev m_Mo_sheet : Nat := 196
abbrev m_Mo_lay : Nat := 197
abbrev m_Mo_read : Nat := 198
abbrev m_Mo_count : Nat := 199
abbrev m_Law_law : Nat := 200
def zT : zTb := fun y => bif Nat.ble y 99 then (bif Nat.ble y 49 then (bif Nat.ble y 24 then (bif Nat.ble y 11 then (bif Nat.ble y 5 then (bif Nat.ble y 2 then (bif Nat.ble y 0 then ((zc_JInt_bitCount, (0, 0), 1)) else (bif Nat.ble y 1 then ((zc_JMath_floorDiv, (0, 0), 6)) else ((zc_JMath_floorMod, (0, 0), 6)))) else (bif Nat.ble y 3 then ((zc_JArr_fillJ, (0, 0), 5)) else (bif Nat.ble y 4 then ((zc_JArr_fillI, (0, 0), 4)) else ((zc_Book_init, (1, 112), 1))))) else (bif Nat.ble y 8 then (bif Nat.ble y 6 then ((zc_Book_hasClock, (0, 0), 2)) else (bif Nat.ble y 7 then ((zc_Book_stampAt, (0, 0), 3)) else ((zc_Book_putStamp, (0, 0), 4)))) else (bif Nat.ble y 9 then ((zc_Book_startWith, (0, 0), 2)) else (bif Nat.ble y 10 then ((zc_Book_copyFrom, (0, 0), 2)) else ((zc_Book_stampsOf, (0, 0), 4)))))) else (bif Nat.ble y 17 then (bif Nat.ble y 14 then (bif Nat.ble y 12 then ((zc_Book_allStamps, (0, 0), 3)) else (bif Nat.ble y 13 then ((zc_Book_unheardBeacons, (0, 0), 3)) else ((zc_Book_isHeard, (0, 0), 3)))) else (bif Nat.ble y 15 then ((zc_Book_heardByBoth, (0, 0), 5)) else (bif Nat.ble y 16 then ((zc_Book_canMove, (0, 0), 5)) else ((zc_Book_moveStamps, (0, 0), 6))))) else (bif Nat.ble y 20 then (bif Nat.ble y 18 then ((zc_Chains_init, (2, 56), 1)) else (bif Nat.ble y 19 then ((zc_Chains_renew, (0, 0), 5)) else ((zc_Chains_weightOf, (0, 0), 1)))) else (bif Nat.ble y 22 then (bif Nat.ble y 21 then ((zc_Chains_reachingPairs, (0, 0), 4)) else ((zc_Chains_reachedFrom, (0, 0), 4))) else (bif Nat.ble y 23 then ((zc_Chains_reaches, (0, 0), 3)) else ((zc_Chains_aimAt, (0, 0), 5))))))) else (bif Nat.ble y 36 then (bif Nat.ble y 30 then (bif Nat.ble y 27 then (bif Nat.ble y 25 then ((zc_Chains_improve, (0, 0), 5)) else (bif Nat.ble y 26 then ((zc_Chains_weightBy, (0, 0), 4)) else ((zc_Chains_reachesAim, (0, 0), 2)))) else (bif Nat.ble y 28 then ((zc_Chains_costToAim, (0, 0), 2)) else (bif Nat.ble y 29 then ((zc_Chains_hopsToAim, (0, 0), 2)) else ((zc_Chains_nextToAim, (0, 0), 3))))) else (bif Nat.ble y 33 then (bif Nat.ble y 31 then ((zc_Drawer_init, (2, 14), 1)) else (bif Nat.ble y 32 then ((zc_Drawer_fill, (0, 0), 6)) else ((zc_Drawer_stampBySeed, (0, 0), 7)))) else (bif Nat.ble y 34 then ((zc_Drawer_next, (0, 0), 1)) else (bif Nat.ble y 35 then ((zc_Line_init, (1, 16), 1)) else ((zc_Line_fit, (0, 0), 5)))))) else (bif Nat.ble y 42 then (bif Nat.ble y 39 then (bif Nat.ble y 37 then ((zc_Line_judge, (0, 0), 4)) else (bif Nat.ble y 38 then ((zc_Line_strikeFarthest, (0, 0), 1)) else ((zc_Line_sumUp, (0, 0), 13)))) else (bif Nat.ble y 40 then ((zc_Line_findFarthest, (0, 0), 7)) else (bif Nat.ble y 41 then ((zc_Line_isLeft, (0, 0), 2)) else ((zc_Line_farOf, (0, 0), 7))))) else (bif Nat.ble y 45 then (bif Nat.ble y 43 then ((zc_Line_partsUp, (0, 0), 3)) else (bif Nat.ble y 44 then ((zc_Line_costOfGood, (0, 0), 1)) else ((zc_Sheet_init, (1, 48), 1)))) else (bif Nat.ble y 47 then (bif Nat.ble y 46 then ((zc_Sheet_isNothing, (0, 0), 1)) else ((zc_Sheet_renew, (0, 0), 3))) else (bif Nat.ble y 48 then ((zc_Sheet_hasCell, (0, 0), 2)) else ((zc_Sheet_putCell, (0, 0), 3)))))))) else (bif Nat.ble y 74 then (bif Nat.ble y 61 then (bif Nat.ble y 55 then (bif Nat.ble y 52 then (bif Nat.ble y 50 then ((zc_Sheet_firstFault, (0, 0), 5)) else (bif Nat.ble y 51 then ((zc_Sheet_stampIn, (0, 0), 2)) else ((zc_Tape_init, (1, 300), 1)))) else (bif Nat.ble y 53 then ((zc_Tape_append, (0, 0), 2)) else (bif Nat.ble y 54 then ((zc_Tape_byteAt, (0, 0), 2)) else ((zc_Tape_behindRun, (0, 0), 5))))) else (bif Nat.ble y 58 then (bif Nat.ble y 56 then ((zc_Text_init, (4, 418), 1)) else (bif Nat.ble y 57 then ((zc_Text_readAll, (0, 0), 4)) else ((zc_Text_startOver, (0, 0), 2)))) else (bif Nat.ble y 59 then ((zc_Text_takeHead, (0, 0), 1)) else (bif Nat.ble y 60 then ((zc_Text_takeLine, (0, 0), 1)) else ((zc_Text_takeHear, (0, 0), 3)))))) else (bif Nat.ble y 67 then (bif Nat.ble y 64 then (bif Nat.ble y 62 then ((zc_Text_takeLimit, (0, 0), 1)) else (bif Nat.ble y 63 then ((zc_Text_takeLeast, (0, 0), 1)) else ((zc_Text_takeNumber, (0, 0), 3)))) else (bif Nat.ble y 65 then ((zc_Text_takeSign, (0, 0), 1)) else (bif Nat.ble y 66 then ((zc_Text_refuse, (0, 0), 2)) else ((zc_Text_nextToken, (0, 0), 2))))) else (bif Nat.ble y 70 then (bif Nat.ble y 68 then ((zc_Text_evaluate, (0, 0), 2)) else (bif Nat.ble y 69 then ((zc_Text_isName, (0, 0), 3)) else ((zc_Time_init, (0, 0), 1)))) else (bif Nat.ble y 72 then (bif Nat.ble y 71 then ((zc_Time_startAt, (0, 0), 3)) else ((zc_Time_takeBy, (0, 0), 6))) else (bif Nat.ble y 73 then ((zc_Time_subtract, (0, 0), 3)) else ((zc_Time_product, (0, 0), 7))))))) else (bif Nat.ble y 86 then (bif Nat.ble y 80 then (bif Nat.ble y 77 then (bif Nat.ble y 75 then ((zc_Time_total, (0, 0), 7)) else (bif Nat.ble y 76 then ((zc_Time_difference, (0, 0), 7)) else ((zc_Time_nearest, (0, 0), 8)))) else (bif Nat.ble y 78 then ((zc_Web_init, (102, 1593), 2)) else (bif Nat.ble y 79 then ((zc_Web_touch, (0, 0), 2)) else ((zc_Web_touchAll, (0, 0), 1))))) else (bif Nat.ble y 83 then (bif Nat.ble y 81 then ((zc_Web_lineOf, (0, 0), 4)) else (bif Nat.ble y 82 then ((zc_Web_isKind, (0, 0), 4)) else ((zc_Web_linesOfKind, (0, 0), 5)))) else (bif Nat.ble y 84 then ((zc_Web_goodLinesFrom, (0, 0), 4)) else (bif Nat.ble y 85 then ((zc_Web_goodLinesTo, (0, 0), 4)) else ((zc_Web_allStrikes, (0, 0), 4)))))) else (bif Nat.ble y 92 then (bif Nat.ble y 89 then (bif Nat.ble y 87 then ((zc_BL_init, (130, 2548), 2)) else (bif Nat.ble y 88 then ((zc_BL_feed, (0, 0), 2)) else ((zc_BL_end, (0, 0), 3)))) else (bif Nat.ble y 90 then ((zc_BL_text, (0, 0), 2)) else (bif Nat.ble y 91 then ((zc_BL_dropImages, (0, 0), 2)) else ((zc_BL_fault, (0, 0), 1))))) else (bif Nat.ble y 95 then (bif Nat.ble y 93 then ((zc_BL_rule, (0, 0), 2)) else (bif Nat.ble y 94 then ((zc_BL_stamp, (0, 0), 3)) else ((zc_BL_clock, (0, 0), 3)))) else (bif Nat.ble y 97 then (bif Nat.ble y 96 then ((zc_BL_line, (0, 0), 5)) else ((zc_BL_sum, (0, 0), 5))) else (bif Nat.ble y 98 then ((zc_BL_struck, (0, 0), 5)) else ((zc_BL_far, (0, 0), 7))))))))) else (bif Nat.ble y 149 then (bif Nat.ble y 124 then (bif Nat.ble y 111 then (bif Nat.ble y 105 then (bif Nat.ble y 102 then (bif Nat.ble y 100 then ((zc_BL_cost, (0, 0), 3)) else (bif Nat.ble y 101 then ((zc_BL_chain, (0, 0), 6)) else ((zc_BL_taken, (0, 0), 5)))) else (bif Nat.ble y 103 then ((zc_BL_ok, (0, 0), 1)) else (bif Nat.ble y 104 then ((zc_BL_there, (0, 0), 5)) else ((zc_BL_takeAlong, (0, 0), 6))))) else (bif Nat.ble y 108 then (bif Nat.ble y 106 then ((zc_BL_freshChains, (0, 0), 1)) else (bif Nat.ble y 107 then ((zc_BL_toldTime, (0, 0), 1)) else ((zc_BL_hear, (0, 0), 4)))) else (bif Nat.ble y 109 then ((zc_BL_lose, (0, 0), 3)) else (bif Nat.ble y 110 then ((zc_BL_replaceStamp, (0, 0), 5)) else ((zc_BL_shift, (0, 0), 3)))))) else (bif Nat.ble y 117 then (bif Nat.ble y 114 then (bif Nat.ble y 112 then ((zc_BL_set, (0, 0), 4)) else (bif Nat.ble y 113 then ((zc_BL_draw, (0, 0), 3)) else ((zc_BL_keep, (0, 0), 3)))) else (bif Nat.ble y 115 then ((zc_BL_back, (0, 0), 2)) else (bif Nat.ble y 116 then ((zc_BL_sheet, (0, 0), 4)) else ((zc_BL_lay, (0, 0), 5))))) else (bif Nat.ble y 120 then (bif Nat.ble y 118 then ((zc_BL_read, (0, 0), 9)) else (bif Nat.ble y 119 then ((zc_BL_count, (0, 0), 2)) else ((zc_BL_keptImages, (0, 0), 3)))) else (bif Nat.ble y 122 then (bif Nat.ble y 121 then ((zc_BL_isPair, (0, 0), 3)) else ((zc_BL_isBeacon, (0, 0), 1))) else (bif Nat.ble y 123 then ((zc_BL_isClockCount, (0, 0), 1)) else ((zc_BL_isLimit, (0, 0), 1))))))) else (bif Nat.ble y 136 then (bif Nat.ble y 130 then (bif Nat.ble y 127 then (bif Nat.ble y 125 then ((zc_BL_isLeast, (0, 0), 1)) else (bif Nat.ble y 126 then ((zc_BL_isImage, (0, 0), 1)) else ((zc_BL_isSheet, (0, 0), 1)))) else (bif Nat.ble y 128 then ((zc_BL_isLane, (0, 0), 1)) else (bif Nat.ble y 129 then ((zc_Mo_init, (16, 1078), 2)) else ((zc_Mo_in, (0, 0), 6))))) else (bif Nat.ble y 133 then (bif Nat.ble y 131 then ((zc_Mo_flag, (0, 0), 1)) else (bif Nat.ble y 132 then ((zc_Mo_empties, (0, 0), 2)) else ((zc_Mo_at, (0, 0), 2)))) else (bif Nat.ble y 134 then ((zc_Mo_feed, (0, 0), 2)) else (bif Nat.ble y 135 then ((zc_Mo_end, (0, 0), 3)) else ((zc_Mo_requires, (0, 0), 3)))))) else (bif Nat.ble y 142 then (bif Nat.ble y 139 then (bif Nat.ble y 137 then ((zc_Mo_byteAt, (0, 0), 2)) else (bif Nat.ble y 138 then ((zc_Mo_is, (0, 0), 5)) else ((zc_Mo_lineNow, (0, 0), 1)))) else (bif Nat.ble y 140 then ((zc_Mo_reads, (0, 0), 2)) else (bif Nat.ble y 141 then ((zc_Mo_numberNow, (0, 0), 3)) else ((zc_Mo_readNumber, (0, 0), 4))))) else (bif Nat.ble y 145 then (bif Nat.ble y 143 then ((zc_Mo_readStop, (0, 0), 1)) else (bif Nat.ble y 144 then ((zc_Mo_readHear, (0, 0), 4)) else ((zc_Mo_readLine, (0, 0), 2)))) else (bif Nat.ble y 147 then (bif Nat.ble y 146 then ((zc_Mo_text, (0, 0), 2)) else ((zc_Mo_fault, (0, 0), 1))) else (bif Nat.ble y 148 then ((zc_Mo_isClock, (0, 0), 2)) else ((zc_Mo_isBeacon, (0, 0), 1)))))))) else (bif Nat.ble y 174 then (bif Nat.ble y 161 then (bif Nat.ble y 155 then (bif Nat.ble y 152 then (bif Nat.ble y 150 then ((zc_Mo_stampsOf, (0, 0), 4)) else (bif Nat.ble y 151 then ((zc_Mo_stamps, (0, 0), 3)) else ((zc_Mo_unheard, (0, 0), 5)))) else (bif Nat.ble y 153 then ((zc_Mo_rule, (0, 0), 2)) else (bif Nat.ble y 154 then ((zc_Mo_stamp, (0, 0), 3)) else ((zc_Mo_sums, (0, 0), 12))))) else (bif Nat.ble y 158 then (bif Nat.ble y 156 then ((zc_Mo_den, (0, 0), 1)) else (bif Nat.ble y 157 then ((zc_Mo_farOf, (0, 0), 6)) else ((zc_Mo_findsFarthest, (0, 0), 4)))) else (bif Nat.ble y 159 then ((zc_Mo_fits, (0, 0), 4)) else (bif Nat.ble y 160 then ((zc_Mo_upBy, (0, 0), 4)) else ((zc_Mo_costOfLine, (0, 0), 1)))))) else (bif Nat.ble y 167 then (bif Nat.ble y 164 then (bif Nat.ble y 162 then ((zc_Mo_areTwo, (0, 0), 3)) else (bif Nat.ble y 163 then ((zc_Mo_line, (0, 0), 4)) else ((zc_Mo_sum, (0, 0), 4)))) else (bif Nat.ble y 165 then ((zc_Mo_struck, (0, 0), 5)) else (bif Nat.ble y 166 then ((zc_Mo_far, (0, 0), 4)) else ((zc_Mo_findsCosts, (0, 0), 3))))) else (bif Nat.ble y 170 then (bif Nat.ble y 168 then ((zc_Mo_isLess, (0, 0), 5)) else (bif Nat.ble y 169 then ((zc_Mo_findsLeast, (0, 0), 5)) else ((zc_Mo_findsChain, (0, 0), 5)))) else (bif Nat.ble y 172 then (bif Nat.ble y 171 then ((zc_Mo_reaches, (0, 0), 4)) else ((zc_Mo_reachable, (0, 0), 3))) else (bif Nat.ble y 173 then ((zc_Mo_ofLines, (0, 0), 5)) else ((zc_Mo_goodOf, (0, 0), 5))))))) else (bif Nat.ble y 187 then (bif Nat.ble y 180 then (bif Nat.ble y 177 then (bif Nat.ble y 175 then ((zc_Mo_clock, (0, 0), 3)) else (bif Nat.ble y 176 then ((zc_Mo_cost, (0, 0), 3)) else ((zc_Mo_chain, (0, 0), 4)))) else (bif Nat.ble y 178 then ((zc_Mo_times, (0, 0), 7)) else (bif Nat.ble y 179 then ((zc_Mo_plus, (0, 0), 7)) else ((zc_Mo_nearest, (0, 0), 8))))) else (bif Nat.ble y 183 then (bif Nat.ble y 181 then ((zc_Mo_takes, (0, 0), 7)) else (bif Nat.ble y 182 then ((zc_Mo_goes, (0, 0), 4)) else ((zc_Mo_reachesOne, (0, 0), 3)))) else (bif Nat.ble y 185 then (bif Nat.ble y 184 then ((zc_Mo_taken, (0, 0), 6)) else ((zc_Mo_ok, (0, 0), 1))) else (bif Nat.ble y 186 then ((zc_Mo_there, (0, 0), 7)) else ((zc_Mo_hear, (0, 0), 5)))))) else (bif Nat.ble y 193 then (bif Nat.ble y 190 then (bif Nat.ble y 188 then ((zc_Mo_lose, (0, 0), 4)) else (bif Nat.ble y 189 then ((zc_Mo_shift, (0, 0), 5)) else ((zc_Mo_set, (0, 0), 4)))) else (bif Nat.ble y 191 then ((zc_Mo_gets, (0, 0), 1)) else (bif Nat.ble y 192 then ((zc_Mo_draw, (0, 0), 8)) else ((zc_Mo_keep, (0, 0), 4))))) else (bif Nat.ble y 196 then (bif Nat.ble y 194 then ((zc_Mo_back, (0, 0), 3)) else (bif Nat.ble y 195 then ((zc_Mo_isSheet, (0, 0), 2)) else ((zc_Mo_sheet, (0, 0), 5)))) else (bif Nat.ble y 198 then (bif Nat.ble y 197 then ((zc_Mo_lay, (0, 0), 4)) else ((zc_Mo_read, (0, 0), 10))) else (bif Nat.ble y 199 then ((zc_Mo_count, (0, 0), 2)) else ((zc_Law_law, (1000, 20000), 4)))))))))
abbrev zW := zWg zT
end
section
set_option maxRecDepth 100000 in
theorem b_JInt_bitCount_0 {d : Nat} {e : Nat × Nat} {h : zH} {Q : zQ} {p0 : Int32} (K : zW (d + 1) m_JInt_bitCount e 10 [Value.int (p0 - (((p0.toUInt32 >>> ((1 : Int32).toUInt32 &&& Int32.toUInt32 31)).toInt32) &&& (1431655765 : Int32)))] [] h Q) : zW (d + 1) m_JInt_bitCount e 0 [Value.int p0] [] h Q := zWg_run (C := zc_JInt_bitCount) (B := (0, 0)) rfl rfl [10] 8 0 _ _ _ K
set_option maxRecDepth 100000 in
theorem b_JInt_bitCount_10 {d : Nat} {e : Nat × Nat} {h : zH} {Q : zQ} {p0 : Int32} (K : Q (some (Value.int (((((((p0 &&& (858993459 : Int32)) + (((p0.toUInt32 >>> ((2 : Int32).toUInt32 &&& Int32.toUInt32 31)).toInt32) &&& (858993459 : Int32))) + ((((p0 &&& (858993459 : Int32)) + (((p0.toUInt32 >>> ((2 : Int32).toUInt32 &&& Int32.toUInt32 31)).toInt32) &&& (858993459 : Int32))).toUInt32 >>> ((4 : Int32).toUInt32 &&& Int32.toUInt32 31)).toInt32)) &&& (252645135 : Int32)) + ((((((p0 &&& (858993459 : Int32)) + (((p0.toUInt32 >>> ((2 : Int32).toUInt32 &&& Int32.toUInt32 31)).toInt32) &&& (858993459 : Int32))) + ((((p0 &&& (858993459 : Int32)) + (((p0.toUInt32 >>> ((2 : Int32).toUInt32 &&& Int32.toUInt32 31)).toInt32) &&& (858993459 : Int32))).toUInt32 >>> ((4 : Int32).toUInt32 &&& Int32.toUInt32 31)).toInt32)) &&& (252645135 : Int32)).toUInt32 >>> ((8 : Int32).toUInt32 &&& Int32.toUInt32 31)).toInt32)) + (((((((p0 &&& (858993459 : Int32)) + (((p0.toUInt32 >>> ((2 : Int32).toUInt32 &&& Int32.toUInt32 31)).toInt32) &&& (858993459 : Int32))) + ((((p0 &&& (858993459 : Int32)) + (((p0.toUInt32 >>> ((2 : Int32).toUInt32 &&& Int32.toUInt32 31)).toInt32) &&& (858993459 : Int32))).toUInt32 >>> ((4 : Int32).toUInt32 &&& Int32.toUInt32 31)).toInt32)) &&& (252645135 : Int32)) + ((((((p0 &&& (858993459 : Int32)) + (((p0.toUInt32 >>> ((2 : Int32).toUInt32 &&& Int32.toUInt32 31)).toInt32) &&& (858993459 : Int32))) + ((((p0 &&& (858993459 : Int32)) + (((p0.toUInt32 >>> ((2 : Int32).toUInt32 &&& Int32.toUInt32 31)).toInt32) &&& (858993459 : Int32))).toUInt32 >>> ((4 : Int32).toUInt32 &&& Int32.toUInt32 31)).toInt32)) &&& (252645135 : Int32)).toUInt32 >>> ((8 : Int32).toUInt32 &&& Int32.toUInt32 31)).toInt32)).toUInt32 >>> ((16 : Int32).toUInt32 &&& Int32.toUInt32 31)).toInt32)) &&& (63 : Int32)))) h) : zW (d + 1) m_JInt_bitCount e 10 [Value.int p0] [] h Q := zWg_run (C := zc_JInt_bitCount) (B := (0, 0)) rfl rfl [10] 34 10 _ _ _ K
set_option maxRecDepth 100000 in
theorem b_JMath_floorDiv_0 {d : Nat} {e : Nat × Nat} {h : zH} {Q : zQ} {p0 : Int64} {p2 : Int64} (K : ¬ p2 = 0 ∧ ((if 0 ≤ (lg_cmp (p0 ^^^ p2) (0 : Int64)) then Q (some (Value.long (p0 / p2))) h else (if (lg_cmp ((p0 / p2) * p2) p0) = 0 then Q (some (Value.long (p0 / p2))) h else Q (some (Value.long ((p0 / p2) - (1 : Int64)))) h)))) : zW (d + 1) m_JMath_floorDiv e 0 [Value.long p0, zD, Value.long p2, zD, zD, zD] [] h Q := zWg_run (C := zc_JMath_floorDiv) (B := (0, 0)) rfl rfl [] 20 0 _ _ _ K
set_option maxRecDepth 100000 in
theorem b_JMath_floorMod_0 {d : Nat} {e : Nat × Nat} {h : zH} {Q : zQ} {p0 : Int64} {p2 : Int64} (K : ¬ p2 = 0 ∧ ((if 0 ≤ (lg_cmp (p0 ^^^ p2) (0 : Int64)) then Q (some (Value.long (p0 - p0 / p2 * p2))) h else (if (lg_cmp (p0 - p0 / p2 * p2) (0 : Int64)) = 0 then Q (some (Value.long (p0 - p0 / p2 * p2))) h else Q (some (Value.long ((p0 - p0 / p2 * p2) + p2))) h)))) : zW (d + 1) m_JMath_floorMod e 0 [Value.long p0, zD, Value.long p2, zD, zD, zD] [] h Q := zWg_run (C := zc_JMath_floorMod) (B := (0, 0)) rfl rfl [] 18 0 _ _ _ K
set_option maxRecDepth 100000 in
theorem b_JArr_fillJ_0 {d : Nat} {e : Nat × Nat} {h : zH} {Q : zQ} {p0 : Nat} {p1 : Int64} (K : ∃ n1 f2, h.2 p0 = zL n1 f2 ∧ (zW (d + 1) m_JArr_fillJ e 6 [Value.ref p0, Value.long p1, zD, Value.int (0 : Int32), Value.int (Int32.ofNat n1)] [] h Q)) : zW (d + 1) m_JArr_fillJ e 0 [Value.ref p0, Value.long p1, zD, zD, zD] [] h Q := zWg_run (C := zc_JArr_fillJ) (B := (0, 0)) rfl rfl [6] 5 0 _ _ _ K
set_option maxRecDepth 100000 in
theorem b_JArr_fillJ_6 {d : Nat} {e : Nat × Nat} {h : zH} {Q : zQ} {p0 : Nat} {p1 : Int64} {p3 : Int32} {p4 : Int32} (K : (if p4 ≤ p3 then Q none h else (∃ n1 f2, h.2 p0 = zL n1 f2 ∧ zIn p3 n1 ∧ ∀ h3, h3 = zP h p0 (zL n1 (zU f2 p3.toNatClampNeg p1)) → (zW (d + 1) m_JArr_fillJ e 6 [Value.ref p0, Value.long p1, zD, Value.int (p3 + 1), Value.int p4] [] h3 Q)))) : zW (d + 1) m_JArr_fillJ e 6 [Value.ref p0, Value.long p1, zD, Value.int p3, Value.int p4] [] h Q := zWg_run (C := zc_JArr_fillJ) (B := (0, 0)) rfl rfl [6] 9 6 _ _ _ K
set_option maxRecDepth 100000 in
theorem b_JArr_fillI_0 {d : Nat} {e : Nat × Nat} {h : zH} {Q : zQ} {p0 : Nat} {p1 : Int32} (K : ∃ n1 f2, h.2 p0 = zI 0 n1 f2 ∧ (zW (d + 1) m_JArr_fillI e 5 [Value.ref p0, Value.int p1, Value.int (0 : Int32), Value.int (Int32.ofNat n1)] [] h Q)) : zW (d + 1) m_JArr_fillI e 0 [Value.ref p0, Value.int p1, zD, zD] [] h Q := zWg_run (C := zc_JArr_fillI) (B := (0, 0)) rfl rfl [5] 5 0 _ _ _ K
set_option maxRecDepth 100000 in
theorem b_JArr_fillI_5 {d : Nat} {e : Nat × Nat} {h : zH} {Q : zQ} {p0 : Nat} {p1 : Int32} {p2 : Int32} {p3 : Int32} (K : (if p3 ≤ p2 then Q none h else (∃ n1 f2, h.2 p0 = zI 0 n1 f2 ∧ zIn p2 n1 ∧ ∀ h3, h3 = zP h p0 (zI 0 n1 (zU f2 p2.toNatClampNeg p1)) → (zW (d + 1) m_JArr_fillI e 5 [Value.ref p0, Value.int p1, Value.int (p2 + 1), Value.int p3] [] h3 Q)))) : zW (d + 1) m_JArr_fillI e 5 [Value.ref p0, Value.int p1, Value.int p2, Value.int p3] [] h Q := zWg_run (C := zc_JArr_fillI) (B := (0, 0)) rfl rfl [5] 9 5 _ _ _ K
set_option maxRecDepth 100000 in
theorem b_Book_init_0 {d : Nat} {e : Nat × Nat} {h : zH} {Q : zQ} {p0 : Nat} (K : (∃ F1, h.2 p0 = zO 0 F1 ∧ ∀ h2, h2 = zP h p0 (zO 0 (zU F1 0 (Value.int (1 : Int32)))) → ((∃ F3, h2.2 p0 = zO 0 F3 ∧ ∀ h4, h4 = zP h2 p0 (zO 0 (zU F3 1 (Value.int (2 : Int32)))) → ((∃ F5, h4.2 p0 = zO 0 F5 ∧ ∀ h6, h6 = zP h4 p0 (zO 0 (zU F5 2 (Value.int (3 : Int32)))) → ((¬ (112 : Int32) < 0 ∧ (112 : Int32).toNatClampNeg ≤ 65536 ∧ h6.1.1 + 1 ≤ e.1 + 1 ∧ h6.1.2 + (112 : Int32).toNatClampNeg ≤ e.2 + 112) ∧ ∀ h7, h7 = zNew h6 (112 : Int32).toNatClampNeg (zI 0 (112 : Int32).toNatClampNeg (fun _ => 0)) → ((∃ F8, h7.2 p0 = zO 0 F8 ∧ ∀ h9, h9 = zP h7 p0 (zO 0 (zU F8 3 (Value.ref (8 + h6.1.1)))) → (∃ F10, h9.2 p0 = zO 0 F10 ∧ ∃ x11, F10 3 = Value.ref x11 ∧ (zW d m_JArr_fillI h9.1 0 [Value.ref x11, Value.int (-4 : Int32), zD, zD] [] h9 (fun r12 h13 => r12 = none ∧ ((h13.1 = (e.1 + 1, e.2 + 112) ∧ Q none h13)))))))))))))) : zW (d + 1) m_Book_init e 0 [Value.ref p0] [] h Q := zWg_run (C := zc_Book_init) (B := (1, 112)) rfl rfl [] 20 0 _ _ _ K
set_option maxRecDepth 100000 in
theorem b_Book_hasClock_0 {d : Nat} {e : Nat × Nat} {h : zH} {Q : zQ} {p0 : Nat} {p1 : Int32} (K : (if p1 < 0 then (((0 : Int32) = 0 ∨ (0 : Int32) = 1) ∧ Q (some (Value.int (0 : Int32))) h) else ∃ F1, h.2 p0 = zO 0 F1 ∧ ∃ x2, F1 0 = Value.int x2 ∧ ((if x2 ≤ p1 then (((0 : Int32) = 0 ∨ (0 : Int32) = 1) ∧ Q (some (Value.int (0 : Int32))) h) else (((1 : Int32) = 0 ∨ (1 : Int32) = 1) ∧ Q (some (Value.int (1 : Int32))) h))))) : zW (d + 1) m_Book_hasClock e 0 [Value.ref p0, Value.int p1] [] h Q := zWg_run (C := zc_Book_hasClock) (B := (0, 0)) rfl rfl [] 9 0 _ _ _ K
set_option maxRecDepth 100000 in
theorem b_Book_stampAt_0 {d : Nat} {e : Nat × Nat} {h : zH} {Q : zQ} {p0 : Nat} {p1 : Int32} {p2 : Int32} (K : ∃ F1, h.2 p0 = zO 0 F1 ∧ ∃ x2, F1 3 = Value.ref x2 ∧ (∃ n3 f4, h.2 x2 = zI 0 n3 f4 ∧ zIn ((p2 * (16 : Int32)) + p1) n3 ∧ (Q (some (Value.int (f4 ((p2 * (16 : Int32)) + p1).toNatClampNeg))) h))) : zW (d + 1) m_Book_stampAt e 0 [Value.ref p0, Value.int p1, Value.int p2] [] h Q := zWg_run (C := zc_Book_stampAt) (B := (0, 0)) rfl rfl [] 9 0 _ _ _ K
set_option maxRecDepth 100000 in
theorem b_Book_putStamp_0 {d : Nat} {e : Nat × Nat} {h : zH} {Q : zQ} {p0 : Nat} {p1 : Int32} {p2 : Int32} {p3 : Int32} (K : ∃ F1, h.2 p0 = zO 0 F1 ∧ ∃ x2, F1 3 = Value.ref x2 ∧ ((∃ n3 f4, h.2 x2 = zI 0 n3 f4 ∧ zIn ((p2 * (16 : Int32)) + p1) n3 ∧ ∀ h5, h5 = zP h x2 (zI 0 n3 (zU f4 ((p2 * (16 : Int32)) + p1).toNatClampNeg p3)) → (Q none h5)))) : zW (d + 1) m_Book_putStamp e 0 [Value.ref p0, Value.int p1, Value.int p2, Value.int p3] [] h Q := zWg_run (C := zc_Book_putStamp) (B := (0, 0)) rfl rfl [] 10 0 _ _ _ K
set_option maxRecDepth 100000 in
theorem b_Book_startWith_0 {d : Nat} {e : Nat × Nat} {h : zH} {Q : zQ} {p0 : Nat} {p1 : Int32} (K : (∃ F1, h.2 p0 = zO 0 F1 ∧ ∀ h2, h2 = zP h p0 (zO 0 (zU F1 0 (Value.int p1))) → (∃ F3, h2.2 p0 = zO 0 F3 ∧ ∃ x4, F3 3 = Value.ref x4 ∧ (zW d m_JArr_fillI h2.1 0 [Value.ref x4, Value.int (-4 : Int32), zD, zD] [] h2 (fun r5 h6 => r5 = none ∧ (Q none h6)))))) : zW (d + 1) m_Book_startWith e 0 [Value.ref p0, Value.int p1] [] h Q := zWg_run (C := zc_Book_startWith) (B := (0, 0)) rfl rfl [] 8 0 _ _ _ K
set_option maxRecDepth 100000 in
theorem b_Book_copyFrom_0 {d : Nat} {e : Nat × Nat} {h : zH} {Q : zQ} {p0 : Nat} {p1 : Nat} (K : ∃ F1, h.2 p1 = zO 0 F1 ∧ ∃ x2, F1 0 = Value.int x2 ∧ ((∃ F3, h.2 p0 = zO 0 F3 ∧ ∀ h4, h4 = zP h p0 (zO 0 (zU F3 0 (Value.int x2))) → (∃ F5, h4.2 p1 = zO 0 F5 ∧ ∃ x6, F5 1 = Value.int x6 ∧ ((∃ F7, h4.2 p0 = zO 0 F7 ∧ ∀ h8, h8 = zP h4 p0 (zO 0 (zU F7 1 (Value.int x6))) → (∃ F9, h8.2 p1 = zO 0 F9 ∧ ∃ x10, F9 2 = Value.int x10 ∧ ((∃ F11, h8.2 p0 = zO 0 F11 ∧ ∀ h12, h12 = zP h8 p0 (zO 0 (zU F11 2 (Value.int x10))) → (∃ F13, h12.2 p1 = zO 0 F13 ∧ ∃ x14, F13 3 = Value.ref x14 ∧ (∃ F15, h12.2 p0 = zO 0 F15 ∧ ∃ x16, F15 3 = Value.ref x16 ∧ (∃ F17, h12.2 p0 = zO 0 F17 ∧ ∃ x18, F17 3 = Value.ref x18 ∧ (∃ n19 f20, h12.2 x18 = zI 0 n19 f20 ∧ (¬ x14 = x16 ∧ ∃ n21 f22 n23 f24, h12.2 x14 = zI 0 n21 f22 ∧ h12.2 x16 = zI 0 n23 f24 ∧ (¬ (Int32.ofNat n19) < 0 ∧ ¬ (0 : Int32) < 0 ∧ ¬ (0 : Int32) < 0 ∧ (0 : Int32).toNatClampNeg + (Int32.ofNat n19).toNatClampNeg ≤ n21 ∧ (0 : Int32).toNatClampNeg + (Int32.ofNat n19).toNatClampNeg ≤ n23) ∧ ∀ h25, h25 = zP h12 x16 (zI 0 n23 (zCpy f22 f24 (0 : Int32).toNatClampNeg (0 : Int32).toNatClampNeg (Int32.ofNat n19).toNatClampNeg)) → (Q none h25))))))))))))))) : zW (d + 1) m_Book_copyFrom e 0 [Value.ref p0, Value.ref p1] [] h Q := zWg_run (C := zc_Book_copyFrom) (B := (0, 0)) rfl rfl [] 23 0 _ _ _ K
set_option maxRecDepth 100000 in
theorem b_Book_stampsOf_0 {d : Nat} {e : Nat × Nat} {h : zH} {Q : zQ} {p0 : Nat} {p1 : Int32} (K : zW (d + 1) m_Book_stampsOf e 4 [Value.ref p0, Value.int p1, Value.int (0 : Int32), Value.int (0 : Int32)] [] h Q) : zW (d + 1) m_Book_stampsOf e 0 [Value.ref p0, Value.int p1, zD, zD] [] h Q := zWg_run (C := zc_Book_stampsOf) (B := (0, 0)) rfl rfl [4] 4 0 _ _ _ K
set_option maxRecDepth 100000 in
theorem b_Book_stampsOf_4 {d : Nat} {e : Nat × Nat} {h : zH} {Q : zQ} {p0 : Nat} {p1 : Int32} {p2 : Int32} {p3 : Int32} (K : (if (16 : Int32) ≤ p3 then Q (some (Value.int p2)) h else (∃ F4, h.2 p0 = zO 0 F4) ∧ zW d m_Book_stampAt h.1 0 [Value.ref p0, Value.int p3, Value.int p1] [] h (fun r1 h2 => ∃ x3, r1 = some (Value.int x3) ∧ ((if x3 = (-4 : Int32) then zW (d + 1) m_Book_stampsOf e 4 [Value.ref p0, Value.int p1, Value.int p2, Value.int (p3 + 1)] [] h2 Q else zW (d + 1) m_Book_stampsOf e 4 [Value.ref p0, Value.int p1, Value.int (p2 + 1), Value.int (p3 + 1)] [] h2 Q))))) : zW (d + 1) m_Book_stampsOf e 4 [Value.ref p0, Value.int p1, Value.int p2, Value.int p3] [] h Q := zWg_run (C := zc_Book_stampsOf) (B := (0, 0)) rfl rfl [4] 12 4 _ _ _ K
set_option maxRecDepth 100000 in
theorem b_Book_allStamps_0 {d : Nat} {e : Nat × Nat} {h : zH} {Q : zQ} {p0 : Nat} (K : zW (d + 1) m_Book_allStamps e 4 [Value.ref p0, Value.int (0 : Int32), Value.int (0 : Int32)] [] h Q) : zW (d + 1) m_Book_allStamps e 0 [Value.ref p0, zD, zD] [] h Q := zWg_run (C := zc_Book_allStamps) (B := (0, 0)) rfl rfl [4] 4 0 _ _ _ K
set_option maxRecDepth 100000 in
theorem b_Book_allStamps_4 {d : Nat} {e : Nat × Nat} {h : zH} {Q : zQ} {p0 : Nat} {p1 : Int32} {p2 : Int32} (K : ∃ F1, h.2 p0 = zO 0 F1 ∧ ∃ x2, F1 0 = Value.int x2 ∧ ((if x2 ≤ p2 then Q (some (Value.int p1)) h else (∃ F6, h.2 p0 = zO 0 F6) ∧ zW d m_Book_stampsOf h.1 0 [Value.ref p0, Value.int p2, zD, zD] [] h (fun r3 h4 => ∃ x5, r3 = some (Value.int x5) ∧ (zW (d + 1) m_Book_allStamps e 4 [Value.ref p0, Value.int (p1 + x5), Value.int (p2 + 1)] [] h4 Q))))) : zW (d + 1) m_Book_allStamps e 4 [Value.ref p0, Value.int p1, Value.int p2] [] h Q := zWg_run (C := zc_Book_allStamps) (B := (0, 0)) rfl rfl [4] 12 4 _ _ _ K
set_option maxRecDepth 100000 in
theorem b_Book_unheardBeacons_0 {d : Nat} {e : Nat × Nat} {h : zH} {Q : zQ} {p0 : Nat} (K : zW (d + 1) m_Book_unheardBeacons e 4 [Value.ref p0, Value.int (0 : Int32), Value.int (0 : Int32)] [] h Q) : zW (d + 1) m_Book_unheardBeacons e 0 [Value.ref p0, zD, zD] [] h Q := zWg_run (C := zc_Book_unheardBeacons) (B := (0, 0)) rfl rfl [4] 4 0 _ _ _ K
set_option maxRecDepth 100000 in
theorem b_Book_unheardBeacons_4 {d : Nat} {e : Nat × Nat} {h : zH} {Q : zQ} {p0 : Nat} {p1 : Int32} {p2 : Int32} (K : (if (16 : Int32) ≤ p2 then Q (some (Value.int p1)) h else (∃ F4, h.2 p0 = zO 0 F4) ∧ zW d m_Book_isHeard h.1 0 [Value.ref p0, Value.int p2, zD] [] h (fun r1 h2 => ∃ x3, r1 = some (Value.int x3) ∧ ((if x3 = 0 then zW (d + 1) m_Book_unheardBeacons e 4 [Value.ref p0, Value.int (p1 + 1), Value.int (p2 + 1)] [] h2 Q else zW (d + 1) m_Book_unheardBeacons e 4 [Value.ref p0, Value.int p1, Value.int (p2 + 1)] [] h2 Q))))) : zW (d + 1) m_Book_unheardBeacons e 4 [Value.ref p0, Value.int p1, Value.int p2] [] h Q := zWg_run (C := zc_Book_unheardBeacons) (B := (0, 0)) rfl rfl [4] 10 4 _ _ _ K
set_option maxRecDepth 100000 in
theorem b_Book_isHeard_0 {d : Nat} {e : Nat × Nat} {h : zH} {Q : zQ} {p0 : Nat} {p1 : Int32} (K : zW (d + 1) m_Book_isHeard e 2 [Value.ref p0, Value.int p1, Value.int (0 : Int32)] [] h Q) : zW (d + 1) m_Book_isHeard e 0 [Value.ref p0, Value.int p1, zD] [] h Q := zWg_run (C := zc_Book_isHeard) (B := (0, 0)) rfl rfl [2] 2 0 _ _ _ K
set_option maxRecDepth 100000 in
theorem b_Book_isHeard_2 {d : Nat} {e : Nat × Nat} {h : zH} {Q : zQ} {p0 : Nat} {p1 : Int32} {p2 : Int32} (K : ∃ F1, h.2 p0 = zO 0 F1 ∧ ∃ x2, F1 0 = Value.int x2 ∧ ((if x2 ≤ p2 then (((0 : Int32) = 0 ∨ (0 : Int32) = 1) ∧ Q (some (Value.int (0 : Int32))) h) else (∃ F6, h.2 p0 = zO 0 F6) ∧ zW d m_Book_stampAt h.1 0 [Value.ref p0, Value.int p1, Value.int p2] [] h (fun r3 h4 => ∃ x5, r3 = some (Value.int x5) ∧ ((if x5 = (-4 : Int32) then zW (d + 1) m_Book_isHeard e 2 [Value.ref p0, Value.int p1, Value.int (p2 + 1)] [] h4 Q else (((1 : Int32) = 0 ∨ (1 : Int32) = 1) ∧ Q (some (Value.int (1 : Int32))) h4))))))) : zW (d + 1) m_Book_isHeard e 2 [Value.ref p0, Value.int p1, Value.int p2] [] h Q := zWg_run (C := zc_Book_isHeard) (B := (0, 0)) rfl rfl [2] 12 2 _ _ _ K
set_option maxRecDepth 100000 in
theorem b_Book_heardByBoth_0 {d : Nat} {e : Nat × Nat} {h : zH} {Q : zQ} {p0 : Nat} {p1 : Int32} {p2 : Int32} (K : zW (d + 1) m_Book_heardByBoth e 5 [Value.ref p0, Value.int p1, Value.int p2, Value.int (0 : Int32), Value.int (0 : Int32)] [] h Q) : zW (d + 1) m_Book_heardByBoth e 0 [Value.ref p0, Value.int p1, Value.int p2, zD, zD] [] h Q := zWg_run (C := zc_Book_heardByBoth) (B := (0, 0)) rfl rfl [5] 4 0 _ _ _ K
set_option maxRecDepth 100000 in
theorem b_Book_heardByBoth_5 {d : Nat} {e : Nat × Nat} {h : zH} {Q : zQ} {p0 : Nat} {p1 : Int32} {p2 : Int32} {p3 : Int32} {p4 : Int32} (K : (if (16 : Int32) ≤ p4 then Q (some (Value.int p3)) h else (∃ F8, h.2 p0 = zO 0 F8) ∧ zW d m_Book_stampAt h.1 0 [Value.ref p0, Value.int p4, Value.int p1] [] h (fun r1 h2 => ∃ x3, r1 = some (Value.int x3) ∧ ((if x3 = (-4 : Int32) then zW (d + 1) m_Book_heardByBoth e 5 [Value.ref p0, Value.int p1, Value.int p2, Value.int p3, Value.int (p4 + 1)] [] h2 Q else (∃ F7, h2.2 p0 = zO 0 F7) ∧ zW d m_Book_stampAt h2.1 0 [Value.ref p0, Value.int p4, Value.int p2] [] h2 (fun r4 h5 => ∃ x6, r4 = some (Value.int x6) ∧ ((if x6 = (-4 : Int32) then zW (d + 1) m_Book_heardByBoth e 5 [Value.ref p0, Value.int p1, Value.int p2, Value.int p3, Value.int (p4 + 1)] [] h5 Q else zW (d + 1) m_Book_heardByBoth e 5 [Value.ref p0, Value.int p1, Value.int p2, Value.int (p3 ||| ((1 : Int32) <<< (p4 &&& 31))), Value.int (p4 + 1)] [] h5 Q)))))))) : zW (d + 1) m_Book_heardByBoth e 5 [Value.ref p0, Value.int p1, Value.int p2, Value.int p3, Value.int p4] [] h Q := zWg_run (C := zc_Book_heardByBoth) (B := (0, 0)) rfl rfl [5] 23 5 _ _ _ K
set_option maxRecDepth 100000 in
theorem b_Book_canMove_0 {d : Nat} {e : Nat × Nat} {h : zH} {Q : zQ} {p0 : Nat} {p1 : Int32} {p2 : Int32} (K : zW (d + 1) m_Book_canMove e 2 [Value.ref p0, Value.int p1, Value.int p2, Value.int (0 : Int32), zD] [] h Q) : zW (d + 1) m_Book_canMove e 0 [Value.ref p0, Value.int p1, Value.int p2, zD, zD] [] h Q := zWg_run (C := zc_Book_canMove) (B := (0, 0)) rfl rfl [2] 2 0 _ _ _ K
set_option maxRecDepth 100000 in
theorem b_Book_canMove_2 {d : Nat} {e : Nat × Nat} {h : zH} {Q : zQ} {p0 : Nat} {p1 : Int32} {p2 : Int32} {p3 : Int32} (K : (if (16 : Int32) ≤ p3 then (((1 : Int32) = 0 ∨ (1 : Int32) = 1) ∧ Q (some (Value.int (1 : Int32))) h) else (∃ F4, h.2 p0 = zO 0 F4) ∧ zW d m_Book_stampAt h.1 0 [Value.ref p0, Value.int p3, Value.int p1] [] h (fun r1 h2 => ∃ x3, r1 = some (Value.int x3) ∧ ((if x3 = (-4 : Int32) then zW (d + 1) m_Book_canMove e 2 [Value.ref p0, Value.int p1, Value.int p2, Value.int (p3 + 1), zD] [] h2 Q else (if (x3 + p2) < 0 then (((0 : Int32) = 0 ∨ (0 : Int32) = 1) ∧ Q (some (Value.int (0 : Int32))) h2) else (if (x3 + p2) ≤ (9999 : Int32) then zW (d + 1) m_Book_canMove e 2 [Value.ref p0, Value.int p1, Value.int p2, Value.int (p3 + 1), zD] [] h2 Q else (((0 : Int32) = 0 ∨ (0 : Int32) = 1) ∧ Q (some (Value.int (0 : Int32))) h2)))))))) : zW (d + 1) m_Book_canMove e 2 [Value.ref p0, Value.int p1, Value.int p2, Value.int p3, zD] [] h Q := zWg_run (C := zc_Book_canMove) (B := (0, 0)) rfl rfl [2] 22 2 _ _ _ K
set_option maxRecDepth 100000 in
theorem b_Book_moveStamps_0 {d : Nat} {e : Nat × Nat} {h : zH} {Q : zQ} {p0 : Nat} {p1 : Int32} {p2 : Int32} (K : zW (d + 1) m_Book_moveStamps e 5 [Value.ref p0, Value.int p1, Value.int p2, Value.int (0 : Int32), Value.int (0 : Int32), zD] [] h Q) : zW (d + 1) m_Book_moveStamps e 0 [Value.ref p0, Value.int p1, Value.int p2, zD, zD, zD] [] h Q := zWg_run (C := zc_Book_moveStamps) (B := (0, 0)) rfl rfl [5] 4 0 _ _ _ K
set_option maxRecDepth 100000 in
theorem b_Book_moveStamps_5 {d : Nat} {e : Nat × Nat} {h : zH} {Q : zQ} {p0 : Nat} {p1 : Int32} {p2 : Int32} {p3 : Int32} {p4 : Int32} (K : (if (16 : Int32) ≤ p4 then Q (some (Value.int p3)) h else (∃ F7, h.2 p0 = zO 0 F7) ∧ zW d m_Book_stampAt h.1 0 [Value.ref p0, Value.int p4, Value.int p1] [] h (fun r1 h2 => ∃ x3, r1 = some (Value.int x3) ∧ ((if x3 = (-4 : Int32) then zW (d + 1) m_Book_moveStamps e 5 [Value.ref p0, Value.int p1, Value.int p2, Value.int p3, Value.int (p4 + 1), zD] [] h2 Q else (∃ F6, h2.2 p0 = zO 0 F6) ∧ zW d m_Book_putStamp h2.1 0 [Value.ref p0, Value.int p4, Value.int p1, Value.int (x3 + p2)] [] h2 (fun r4 h5 => r4 = none ∧ (zW (d + 1) m_Book_moveStamps e 5 [Value.ref p0, Value.int p1, Value.int p2, Value.int (p3 + 1), Value.int (p4 + 1), zD] [] h5 Q))))))) : zW (d + 1) m_Book_moveStamps e 5 [Value.ref p0, Value.int p1, Value.int p2, Value.int p3, Value.int p4, zD] [] h Q := zWg_run (C := zc_Book_moveStamps) (B := (0, 0)) rfl rfl [5] 21 5 _ _ _ K
set_option maxRecDepth 100000 in
theorem b_Sheet_init_0 {d : Nat} {e : Nat × Nat} {h : zH} {Q : zQ} {p0 : Nat} (K : (∃ F1, h.2 p0 = zO 4 F1 ∧ ∀ h2, h2 = zP h p0 (zO 4 (zU F1 0 (Value.int (-1 : Int32)))) → ((¬ (48 : Int32) < 0 ∧ (48 : Int32).toNatClampNeg ≤ 65536 ∧ h2.1.1 + 1 ≤ e.1 + 1 ∧ h2.1.2 + (48 : Int32).toNatClampNeg ≤ e.2 + 48) ∧ ∀ h3, h3 = zNew h2 (48 : Int32).toNatClampNeg (zL (48 : Int32).toNatClampNeg (fun _ => 0)) → ((∃ F4, h3.2 p0 = zO 4 F4 ∧ ∀ h5, h5 = zP h3 p0 (zO 4 (zU F4 2 (Value.ref (8 + h2.1.1)))) → ((h5.1 = (e.1 + 1, e.2 + 48) ∧ Q none h5))))))) : zW (d + 1) m_Sheet_init e 0 [Value.ref p0] [] h Q := zWg_run (C := zc_Sheet_init) (B := (1, 48)) rfl rfl [] 10 0 _ _ _ K
set_option maxRecDepth 100000 in
theorem b_Sheet_isNothing_0 {d : Nat} {e : Nat × Nat} {h : zH} {Q : zQ} {p0 : Nat} (K : ∃ F1, h.2 p0 = zO 4 F1 ∧ ∃ x2, F1 0 = Value.int x2 ∧ ((if x2 = (-1 : Int32) then (((1 : Int32) = 0 ∨ (1 : Int32) = 1) ∧ Q (some (Value.int (1 : Int32))) h) else (((0 : Int32) = 0 ∨ (0 : Int32) = 1) ∧ Q (some (Value.int (0 : Int32))) h)))) : zW (d + 1) m_Sheet_isNothing e 0 [Value.ref p0] [] h Q := zWg_run (C := zc_Sheet_isNothing) (B := (0, 0)) rfl rfl [] 7 0 _ _ _ K
set_option maxRecDepth 100000 in
theorem b_Sheet_renew_0 {d : Nat} {e : Nat × Nat} {h : zH} {Q : zQ} {p0 : Nat} {p1 : Int32} {p2 : Int32} (K : (∃ F1, h.2 p0 = zO 4 F1 ∧ ∀ h2, h2 = zP h p0 (zO 4 (zU F1 1 (Value.int p1))) → ((∃ F3, h2.2 p0 = zO 4 F3 ∧ ∀ h4, h4 = zP h2 p0 (zO 4 (zU F3 0 (Value.int p2))) → (∃ F5, h4.2 p0 = zO 4 F5 ∧ ∃ x6, F5 2 = Value.ref x6 ∧ (zW d m_JArr_fillJ h4.1 0 [Value.ref x6, Value.long (0 : Int64), zD, zD, zD] [] h4 (fun r7 h8 => r7 = none ∧ (Q none h8)))))))) : zW (d + 1) m_Sheet_renew e 0 [Value.ref p0, Value.int p1, Value.int p2] [] h Q := zWg_run (C := zc_Sheet_renew) (B := (0, 0)) rfl rfl [] 11 0 _ _ _ K
set_option maxRecDepth 100000 in
theorem b_Sheet_hasCell_0 {d : Nat} {e : Nat × Nat} {h : zH} {Q : zQ} {p0 : Nat} {p1 : Int32} (K : (if p1 < 0 then (((0 : Int32) = 0 ∨ (0 : Int32) = 1) ∧ Q (some (Value.int (0 : Int32))) h) else ∃ F1, h.2 p0 = zO 4 F1 ∧ ∃ x2, F1 0 = Value.int x2 ∧ ((if x2 ≤ p1 then (((0 : Int32) = 0 ∨ (0 : Int32) = 1) ∧ Q (some (Value.int (0 : Int32))) h) else (((1 : Int32) = 0 ∨ (1 : Int32) = 1) ∧ Q (some (Value.int (1 : Int32))) h))))) : zW (d + 1) m_Sheet_hasCell e 0 [Value.ref p0, Value.int p1] [] h Q := zWg_run (C := zc_Sheet_hasCell) (B := (0, 0)) rfl rfl [] 9 0 _ _ _ K
set_option maxRecDepth 100000 in
theorem b_Sheet_putCell_0 {d : Nat} {e : Nat × Nat} {h : zH} {Q : zQ} {p0 : Nat} {p1 : Int32} {p2 : Int32} (K : ∃ F1, h.2 p0 = zO 4 F1 ∧ ∃ x2, F1 2 = Value.ref x2 ∧ (∃ F3, h.2 p0 = zO 4 F3 ∧ ∃ x4, F3 1 = Value.int x4 ∧ ((if x4 = 0 then (∃ n5 f6, h.2 x2 = zL n5 f6 ∧ zIn p1 n5 ∧ ∀ h7, h7 = zP h x2 (zL n5 (zU f6 p1.toNatClampNeg p2.toInt16.toInt32.toInt64)) → (Q none h7)) else (∃ n8 f9, h.2 x2 = zL n8 f9 ∧ zIn p1 n8 ∧ ∀ h10, h10 = zP h x2 (zL n8 (zU f9 p1.toNatClampNeg p2.toInt64)) → (Q none h10)))))) : zW (d + 1) m_Sheet_putCell e 0 [Value.ref p0, Value.int p1, Value.int p2] [] h Q := zWg_run (C := zc_Sheet_putCell) (B := (0, 0)) rfl rfl [] 12 0 _ _ _ K
set_option maxRecDepth 100000 in
theorem b_Sheet_firstFault_0 {d : Nat} {e : Nat × Nat} {h : zH} {Q : zQ} {p0 : Nat} {p1 : Int32} {p2 : Int32} {p3 : Int32} (K : (∃ F6, h.2 p0 = zO 4 F6) ∧ zW d m_Sheet_isNothing h.1 0 [Value.ref p0] [] h (fun r1 h2 => ∃ x3, r1 = some (Value.int x3) ∧ ((if x3 = 0 then ∃ F4, h2.2 p0 = zO 4 F4 ∧ ∃ x5, F4 1 = Value.int x5 ∧ ((if p1 = x5 then zW (d + 1) m_Sheet_firstFault e 24 [Value.ref p0, zD, Value.int p2, Value.int p3, Value.int (0 : Int32)] [] h2 Q else Q (some (Value.int (-12 : Int32))) h2)) else Q (some (Value.int (-11 : Int32))) h2)))) : zW (d + 1) m_Sheet_firstFault e 0 [Value.ref p0, Value.int p1, Value.int p2, Value.int p3, zD] [] h Q := zWg_run (C := zc_Sheet_firstFault) (B := (0, 0)) rfl rfl [24] 9 0 _ _ _ K
set_option maxRecDepth 100000 in
theorem b_Sheet_firstFault_24 {d : Nat} {e : Nat × Nat} {h : zH} {Q : zQ} {p0 : Nat} {p2 : Int32} {p3 : Int32} {p4 : Int32} (K : (if p3 ≤ p4 then Q (some (Value.int (0 : Int32))) h else (∃ F8, h.2 p0 = zO 4 F8) ∧ zW d m_Sheet_hasCell h.1 0 [Value.ref p0, Value.int (p2 + p4)] [] h (fun r1 h2 => ∃ x3, r1 = some (Value.int x3) ∧ ((if x3 = 0 then Q (some (Value.int (-13 : Int32))) h2 else ∃ F4, h2.2 p0 = zO 4 F4 ∧ ∃ x5, F4 2 = Value.ref x5 ∧ (∃ n6 f7, h2.2 x5 = zL n6 f7 ∧ zIn (p2 + p4) n6 ∧ ((if (lg_cmp (f7 (p2 + p4).toNatClampNeg) (9999 : Int64)) ≤ 0 then zW (d + 1) m_Sheet_firstFault e 24 [Value.ref p0, zD, Value.int p2, Value.int p3, Value.int (p4 + 1)] [] h2 Q else Q (some (Value.int ((-20 : Int32) - p4))) h2)))))))) : zW (d + 1) m_Sheet_firstFault e 24 [Value.ref p0, zD, Value.int p2, Value.int p3, Value.int p4] [] h Q := zWg_run (C := zc_Sheet_firstFault) (B := (0, 0)) rfl rfl [24] 22 24 _ _ _ K
set_option maxRecDepth 100000 in
theorem b_Sheet_stampIn_0 {d : Nat} {e : Nat × Nat} {h : zH} {Q : zQ} {p0 : Nat} {p1 : Int32} (K : ∃ F1, h.2 p0 = zO 4 F1 ∧ ∃ x2, F1 2 = Value.ref x2 ∧ (∃ n3 f4, h.2 x2 = zL n3 f4 ∧ zIn p1 n3 ∧ ((if 0 ≤ (lg_cmp (f4 p1.toNatClampNeg) (0 : Int64)) then ∃ F5, h.2 p0 = zO 4 F5 ∧ ∃ x6, F5 2 = Value.ref x6 ∧ (∃ n7 f8, h.2 x6 = zL n7 f8 ∧ zIn p1 n7 ∧ (Q (some (Value.int ((f8 p1.toNatClampNeg).toInt32))) h)) else Q (some (Value.int (-4 : Int32))) h)))) : zW (d + 1) m_Sheet_stampIn e 0 [Value.ref p0, Value.int p1] [] h Q := zWg_run (C := zc_Sheet_stampIn) (B := (0, 0)) rfl rfl [] 13 0 _ _ _ K
set_option maxRecDepth 100000 in
theorem b_Tape_init_0 {d : Nat} {e : Nat × Nat} {h : zH} {Q : zQ} {p0 : Nat} (K : (¬ (300 : Int32) < 0 ∧ (300 : Int32).toNatClampNeg ≤ 65536 ∧ h.1.1 + 1 ≤ e.1 + 1 ∧ h.1.2 + (300 : Int32).toNatClampNeg ≤ e.2 + 300) ∧ ∀ h1, h1 = zNew h (300 : Int32).toNatClampNeg (zI 2 (300 : Int32).toNatClampNeg (fun _ => 0)) → ((∃ F2, h1.2 p0 = zO 5 F2 ∧ ∀ h3, h3 = zP h1 p0 (zO 5 (zU F2 1 (Value.ref (8 + h.1.1)))) → ((h3.1 = (e.1 + 1, e.2 + 300) ∧ Q none h3))))) : zW (d + 1) m_Tape_init e 0 [Value.ref p0] [] h Q := zWg_run (C := zc_Tape_init) (B := (1, 300)) rfl rfl [] 7 0 _ _ _ K
set_option maxRecDepth 100000 in
theorem b_Tape_append_0 {d : Nat} {e : Nat × Nat} {h : zH} {Q : zQ} {p0 : Nat} {p1 : Int32} (K : ∃ F1, h.2 p0 = zO 5 F1 ∧ ∃ x2, F1 0 = Value.int x2 ∧ ((if x2 < (300 : Int32) then ∃ F3, h.2 p0 = zO 5 F3 ∧ ∃ x4, F3 1 = Value.ref x4 ∧ (∃ F5, h.2 p0 = zO 5 F5 ∧ ∃ x6, F5 0 = Value.int x6 ∧ ((∃ n7 f8, h.2 x4 = zI 2 n7 f8 ∧ zIn x6 n7 ∧ ∀ h9, h9 = zP h x4 (zI 2 n7 (zU f8 x6.toNatClampNeg p1.toInt8.toInt32.toInt8.toInt32)) → (∃ F10, h9.2 p0 = zO 5 F10 ∧ ∃ x11, F10 0 = Value.int x11 ∧ ((∃ F12, h9.2 p0 = zO 5 F12 ∧ ∀ h13, h13 = zP h9 p0 (zO 5 (zU F12 0 (Value.int (x11 + (1 : Int32))))) → ((((1 : Int32) = 0 ∨ (1 : Int32) = 1) ∧ Q (some (Value.int (1 : Int32))) h13)))))))) else (((0 : Int32) = 0 ∨ (0 : Int32) = 1) ∧ Q (some (Value.int (0 : Int32))) h)))) : zW (d + 1) m_Tape_append e 0 [Value.ref p0, Value.int p1] [] h Q := zWg_run (C := zc_Tape_append) (B := (0, 0)) rfl rfl [] 19 0 _ _ _ K
set_option maxRecDepth 100000 in
theorem b_Tape_byteAt_0 {d : Nat} {e : Nat × Nat} {h : zH} {Q : zQ} {p0 : Nat} {p1 : Int32} (K : (if p1 < 0 then Q (some (Value.int (0 : Int32))) h else ∃ F1, h.2 p0 = zO 5 F1 ∧ ∃ x2, F1 0 = Value.int x2 ∧ ((if x2 ≤ p1 then Q (some (Value.int (0 : Int32))) h else ∃ F3, h.2 p0 = zO 5 F3 ∧ ∃ x4, F3 1 = Value.ref x4 ∧ (∃ n5 f6, h.2 x4 = zI 2 n5 f6 ∧ zIn p1 n5 ∧ (Q (some (Value.int (f6 p1.toNatClampNeg))) h)))))) : zW (d + 1) m_Tape_byteAt e 0 [Value.ref p0, Value.int p1] [] h Q := zWg_run (C := zc_Tape_byteAt) (B := (0, 0)) rfl rfl [] 12 0 _ _ _ K
set_option maxRecDepth 100000 in
theorem b_Tape_behindRun_0 {d : Nat} {e : Nat × Nat} {h : zH} {Q : zQ} {p0 : Nat} {p1 : Int32} {p2 : Int32} {p3 : Int32} (K : zW (d + 1) m_Tape_behindRun e 3 [Value.ref p0, zD, Value.int p2, Value.int p3, Value.int p1] [] h Q) : zW (d + 1) m_Tape_behindRun e 0 [Value.ref p0, Value.int p1, Value.int p2, Value.int p3, zD] [] h Q := zWg_run (C := zc_Tape_behindRun) (B := (0, 0)) rfl rfl [3] 2 0 _ _ _ K
set_option maxRecDepth 100000 in
theorem b_Tape_behindRun_3 {d : Nat} {e : Nat × Nat} {h : zH} {Q : zQ} {p0 : Nat} {p2 : Int32} {p3 : Int32} {p4 : Int32} (K : (if p4 < 0 then ∃ F1, h.2 p0 = zO 5 F1 ∧ ∃ x2, F1 0 = Value.int x2 ∧ (Q (some (Value.int x2)) h) else ∃ F3, h.2 p0 = zO 5 F3 ∧ ∃ x4, F3 0 = Value.int x4 ∧ ((if x4 ≤ p4 then ∃ F5, h.2 p0 = zO 5 F5 ∧ ∃ x6, F5 0 = Value.int x6 ∧ (Q (some (Value.int x6)) h) else ∃ F7, h.2 p0 = zO 5 F7 ∧ ∃ x8, F7 1 = Value.ref x8 ∧ (∃ n9 f10, h.2 x8 = zI 2 n9 f10 ∧ zIn p4 n9 ∧ ((if (f10 p4.toNatClampNeg) < p2 then Q (some (Value.int p4)) h else ∃ F11, h.2 p0 = zO 5 F11 ∧ ∃ x12, F11 1 = Value.ref x12 ∧ (∃ n13 f14, h.2 x12 = zI 2 n13 f14 ∧ zIn p4 n13 ∧ ((if (f14 p4.toNatClampNeg) ≤ p3 then zW (d + 1) m_Tape_behindRun e 3 [Value.ref p0, zD, Value.int p2, Value.int p3, Value.int (p4 + 1)] [] h Q else Q (some (Value.int p4)) h)))))))))) : zW (d + 1) m_Tape_behindRun e 3 [Value.ref p0, zD, Value.int p2, Value.int p3, Value.int p4] [] h Q := zWg_run (C := zc_Tape_behindRun) (B := (0, 0)) rfl rfl [3] 20 3 _ _ _ K
set_option maxRecDepth 100000 in
theorem b_Time_init_0 {d : Nat} {e : Nat × Nat} {h : zH} {Q : zQ} {p0 : Nat} (K : Q none h) : zW (d + 1) m_Time_init e 0 [Value.ref p0] [] h Q := zWg_run (C := zc_Time_init) (B := (0, 0)) rfl rfl [] 3 0 _ _ _ K
set_option maxRecDepth 100000 in
theorem b_Time_startAt_0 {d : Nat} {e : Nat × Nat} {h : zH} {Q : zQ} {p0 : Nat} {p1 : Int64} (K : (∃ F1, h.2 p0 = zO 7 F1 ∧ ∀ h2, h2 = zP h p0 (zO 7 (zU F1 0 (Value.long p1))) → ((((0 : Int32) = 0 ∨ (0 : Int32) = 1) ∧ (∃ F3, h2.2 p0 = zO 7 F3 ∧ ∀ h4, h4 = zP h2 p0 (zO 7 (zU F3 1 (Value.int (0 : Int32)))) → (Q none h4)))))) : zW (d + 1) m_Time_startAt e 0 [Value.ref p0, Value.long p1, zD] [] h Q := zWg_run (C := zc_Time_startAt) (B := (0, 0)) rfl rfl [] 7 0 _ _ _ K
set_option maxRecDepth 100000 in
theorem b_Time_takeBy_0 {d : Nat} {e : Nat × Nat} {h : zH} {Q : zQ} {p0 : Nat} {p1 : Nat} (K : ∃ F1, h.2 p1 = zO 3 F1 ∧ ∃ x2, F1 2 = Value.int x2 ∧ (∃ F3, h.2 p0 = zO 7 F3 ∧ ∃ x4, F3 0 = Value.long x4 ∧ ((∃ F35, h.2 p0 = zO 7 F35) ∧ zW d m_Time_product h.1 0 [Value.ref p0, Value.long x2.toInt64, zD, Value.long x4, zD, zD, zD] [] h (fun r5 h6 => ∃ x7, r5 = some (Value.long x7) ∧ (∃ F8, h6.2 p1 = zO 3 F8 ∧ ∃ x9, F8 3 = Value.long x9 ∧ ((∃ F34, h6.2 p0 = zO 7 F34) ∧ zW d m_Time_difference h6.1 0 [Value.ref p0, Value.long x7, zD, Value.long ((256 : Int64) * x9), zD, zD, zD] [] h6 (fun r10 h11 => ∃ x12, r10 = some (Value.long x12) ∧ (∃ F13, h11.2 p1 = zO 3 F13 ∧ ∃ x14, F13 6 = Value.long x14 ∧ ((∃ F33, h11.2 p0 = zO 7 F33) ∧ zW d m_Time_product h11.1 0 [Value.ref p0, Value.long x14, zD, Value.long x12, zD, zD, zD] [] h11 (fun r15 h16 => ∃ x17, r15 = some (Value.long x17) ∧ (∃ F18, h16.2 p1 = zO 3 F18 ∧ ∃ x19, F18 4 = Value.long x19 ∧ (∃ F20, h16.2 p1 = zO 3 F20 ∧ ∃ x21, F20 5 = Value.long x21 ∧ ((∃ F32, h16.2 p0 = zO 7 F32) ∧ zW d m_Time_total h16.1 0 [Value.ref p0, Value.long x17, zD, Value.long (((256 : Int64) * x19) * x21), zD, zD, zD] [] h16 (fun r22 h23 => ∃ x24, r22 = some (Value.long x24) ∧ (∃ F25, h23.2 p1 = zO 3 F25 ∧ ∃ x26, F25 7 = Value.long x26 ∧ (zW d m_Time_nearest h23.1 0 [Value.long x24, zD, Value.long x26, zD, zD, zD, zD, zD] [] h23 (fun r27 h28 => ∃ x29, r27 = some (Value.long x29) ∧ ((∃ F30, h28.2 p0 = zO 7 F30 ∧ ∀ h31, h31 = zP h28 p0 (zO 7 (zU F30 0 (Value.long x29))) → (Q none h31)))))))))))))))))))) : zW (d + 1) m_Time_takeBy e 0 [Value.ref p0, Value.ref p1, zD, zD, zD, zD] [] h Q := zWg_run (C := zc_Time_takeBy) (B := (0, 0)) rfl rfl [] 36 0 _ _ _ K
set_option maxRecDepth 100000 in
theorem b_Time_subtract_0 {d : Nat} {e : Nat × Nat} {h : zH} {Q : zQ} {p0 : Nat} {p1 : Int64} (K : ∃ F1, h.2 p0 = zO 7 F1 ∧ ∃ x2, F1 0 = Value.long x2 ∧ ((∃ F8, h.2 p0 = zO 7 F8) ∧ zW d m_Time_difference h.1 0 [Value.ref p0, Value.long x2, zD, Value.long p1, zD, zD, zD] [] h (fun r3 h4 => ∃ x5, r3 = some (Value.long x5) ∧ ((∃ F6, h4.2 p0 = zO 7 F6 ∧ ∀ h7, h7 = zP h4 p0 (zO 7 (zU F6 0 (Value.long x5))) → (Q none h7)))))) : zW (d + 1) m_Time_subtract e 0 [Value.ref p0, Value.long p1, zD] [] h Q := zWg_run (C := zc_Time_subtract) (B := (0, 0)) rfl rfl [] 8 0 _ _ _ K
set_option maxRecDepth 100000 in
theorem b_Time_product_0 {d : Nat} {e : Nat × Nat} {h : zH} {Q : zQ} {p0 : Nat} {p1 : Int64} {p3 : Int64} (K : (if (lg_cmp p3 (0 : Int64)) = 0 then Q (some (Value.long (p1 * p3))) h else ¬ p3 = 0 ∧ ((if (lg_cmp ((p1 * p3) / p3) p1) = 0 then Q (some (Value.long (p1 * p3))) h else (((1 : Int32) = 0 ∨ (1 : Int32) = 1) ∧ (∃ F1, h.2 p0 = zO 7 F1 ∧ ∀ h2, h2 = zP h p0 (zO 7 (zU F1 1 (Value.int (1 : Int32)))) → (Q (some (Value.long (p1 * p3))) h2))))))) : zW (d + 1) m_Time_product e 0 [Value.ref p0, Value.long p1, zD, Value.long p3, zD, zD, zD] [] h Q := zWg_run (C := zc_Time_product) (B := (0, 0)) rfl rfl [] 19 0 _ _ _ K
set_option maxRecDepth 100000 in
theorem b_Time_total_0 {d : Nat} {e : Nat × Nat} {h : zH} {Q : zQ} {p0 : Nat} {p1 : Int64} {p3 : Int64} (K : (if 0 ≤ (lg_cmp ((p1 ^^^ (p1 + p3)) &&& (p3 ^^^ (p1 + p3))) (0 : Int64)) then Q (some (Value.long (p1 + p3))) h else (((1 : Int32) = 0 ∨ (1 : Int32) = 1) ∧ (∃ F1, h.2 p0 = zO 7 F1 ∧ ∀ h2, h2 = zP h p0 (zO 7 (zU F1 1 (Value.int (1 : Int32)))) → (Q (some (Value.long (p1 + p3))) h2))))) : zW (d + 1) m_Time_total e 0 [Value.ref p0, Value.long p1, zD, Value.long p3, zD, zD, zD] [] h Q := zWg_run (C := zc_Time_total) (B := (0, 0)) rfl rfl [] 19 0 _ _ _ K
set_option maxRecDepth 100000 in
theorem b_Time_difference_0 {d : Nat} {e : Nat × Nat} {h : zH} {Q : zQ} {p0 : Nat} {p1 : Int64} {p3 : Int64} (K : (if 0 ≤ (lg_cmp ((p1 ^^^ p3) &&& (p1 ^^^ (p1 - p3))) (0 : Int64)) then Q (some (Value.long (p1 - p3))) h else (((1 : Int32) = 0 ∨ (1 : Int32) = 1) ∧ (∃ F1, h.2 p0 = zO 7 F1 ∧ ∀ h2, h2 = zP h p0 (zO 7 (zU F1 1 (Value.int (1 : Int32)))) → (Q (some (Value.long (p1 - p3))) h2))))) : zW (d + 1) m_Time_difference e 0 [Value.ref p0, Value.long p1, zD, Value.long p3, zD, zD, zD] [] h Q := zWg_run (C := zc_Time_difference) (B := (0, 0)) rfl rfl [] 19 0 _ _ _ K
set_option maxRecDepth 100000 in
theorem b_Time_nearest_0 {d : Nat} {e : Nat × Nat} {h : zH} {Q : zQ} {p0 : Int64} {p2 : Int64} (K : (if 0 < (lg_cmp p2 (0 : Int64)) then zW d m_JMath_floorDiv h.1 0 [Value.long p0, zD, Value.long p2, zD, zD, zD] [] h (fun r1 h2 => ∃ x3, r1 = some (Value.long x3) ∧ (zW d m_JMath_floorMod h2.1 0 [Value.long p0, zD, Value.long p2, zD, zD, zD] [] h2 (fun r4 h5 => ∃ x6, r4 = some (Value.long x6) ∧ ((if (lg_cmp x6 (p2 - x6)) < 0 then Q (some (Value.long x3)) h5 else Q (some (Value.long (x3 + (1 : Int64)))) h5))))) else Q (some (Value.long (0 : Int64))) h)) : zW (d + 1) m_Time_nearest e 0 [Value.long p0, zD, Value.long p2, zD, zD, zD, zD, zD] [] h Q := zWg_run (C := zc_Time_nearest) (B := (0, 0)) rfl rfl [] 23 0 _ _ _ K
set_option maxRecDepth 100000 in
theorem b_Drawer_init_0 {d : Nat} {e : Nat × Nat} {h : zH} {Q : zQ} {p0 : Nat} (K : (¬ (7 : Int32) < 0 ∧ (7 : Int32).toNatClampNeg ≤ 65536 ∧ h.1.1 + 1 ≤ e.1 + 2 ∧ h.1.2 + (7 : Int32).toNatClampNeg ≤ e.2 + 14) ∧ ∀ h1, h1 = zNew h (7 : Int32).toNatClampNeg (zI 0 (7 : Int32).toNatClampNeg (fun _ => 0)) → ((∃ F2, h1.2 p0 = zO 2 F2 ∧ ∀ h3, h3 = zP h1 p0 (zO 2 (zU F2 0 (Value.ref (8 + h.1.1)))) → ((¬ (7 : Int32) < 0 ∧ (7 : Int32).toNatClampNeg ≤ 65536 ∧ h3.1.1 + 1 ≤ e.1 + 2 ∧ h3.1.2 + (7 : Int32).toNatClampNeg ≤ e.2 + 14) ∧ ∀ h4, h4 = zNew h3 (7 : Int32).toNatClampNeg (zI 0 (7 : Int32).toNatClampNeg (fun _ => 0)) → ((∃ F5, h4.2 p0 = zO 2 F5 ∧ ∀ h6, h6 = zP h4 p0 (zO 2 (zU F5 1 (Value.ref (8 + h3.1.1)))) → ((h6.1 = (e.1 + 2, e.2 + 14) ∧ Q none h6)))))))) : zW (d + 1) m_Drawer_init e 0 [Value.ref p0] [] h Q := zWg_run (C := zc_Drawer_init) (B := (2, 14)) rfl rfl [] 11 0 _ _ _ K
set_option maxRecDepth 100000 in
theorem b_Drawer_fill_0 {d : Nat} {e : Nat × Nat} {h : zH} {Q : zQ} {p0 : Nat} {p1 : Nat} {p2 : Int32} {p3 : Int32} (K : (∃ F1, h.2 p0 = zO 2 F1 ∧ ∀ h2, h2 = zP h p0 (zO 2 (zU F1 2 (Value.int p2))) → ((∃ F5, h2.2 p1 = zO 0 F5) ∧ zW d m_Book_startWith h2.1 0 [Value.ref p1, Value.int p3] [] h2 (fun r3 h4 => r3 = none ∧ (zW (d + 1) m_Drawer_fill e 13 [Value.ref p0, Value.ref p1, zD, Value.int p3, Value.int (0 : Int32), zD] [] h4 Q))))) : zW (d + 1) m_Drawer_fill e 0 [Value.ref p0, Value.ref p1, Value.int p2, Value.int p3, zD, zD] [] h Q := zWg_run (C := zc_Drawer_fill) (B := (0, 0)) rfl rfl [13, 56, 66] 8 0 _ _ _ K
set_option maxRecDepth 100000 in
theorem b_Drawer_fill_13 {d : Nat} {e : Nat × Nat} {h : zH} {Q : zQ} {p0 : Nat} {p1 : Nat} {p3 : Int32} {p4 : Int32} (K : (if p3 ≤ p4 then zW (d + 1) m_Drawer_fill e 56 [Value.ref p0, Value.ref p1, zD, Value.int p3, Value.int (0 : Int32), zD] [] h Q else ∃ F1, h.2 p0 = zO 2 F1 ∧ ∃ x2, F1 0 = Value.ref x2 ∧ ((∃ F18, h.2 p0 = zO 2 F18) ∧ zW d m_Drawer_next h.1 0 [Value.ref p0] [] h (fun r3 h4 => ∃ x5, r3 = some (Value.int x5) ∧ (¬ (500 : Int32) = 0 ∧ ((∃ n6 f7, h4.2 x2 = zI 0 n6 f7 ∧ zIn p4 n6 ∧ ∀ h8, h8 = zP h4 x2 (zI 0 n6 (zU f7 p4.toNatClampNeg (x5 - x5 / (500 : Int32) * (500 : Int32)))) → (∃ F9, h8.2 p0 = zO 2 F9 ∧ ∃ x10, F9 1 = Value.ref x10 ∧ ((∃ F17, h8.2 p0 = zO 2 F17) ∧ zW d m_Drawer_next h8.1 0 [Value.ref p0] [] h8 (fun r11 h12 => ∃ x13, r11 = some (Value.int x13) ∧ (¬ (5 : Int32) = 0 ∧ ((∃ n14 f15, h12.2 x10 = zI 0 n14 f15 ∧ zIn p4 n14 ∧ ∀ h16, h16 = zP h12 x10 (zI 0 n14 (zU f15 p4.toNatClampNeg (x13 - x13 / (5 : Int32) * (5 : Int32)))) → (zW (d + 1) m_Drawer_fill e 13 [Value.ref p0, Value.ref p1, zD, Value.int p3, Value.int (p4 + 1), zD] [] h16 Q)))))))))))))) : zW (d + 1) m_Drawer_fill e 13 [Value.ref p0, Value.ref p1, zD, Value.int p3, Value.int p4, zD] [] h Q := zWg_run (C := zc_Drawer_fill) (B := (0, 0)) rfl rfl [13, 56, 66] 21 13 _ _ _ K
set_option maxRecDepth 100000 in
theorem b_Drawer_fill_56 {d : Nat} {e : Nat × Nat} {h : zH} {Q : zQ} {p0 : Nat} {p1 : Nat} {p3 : Int32} {p4 : Int32} (K : (if (16 : Int32) ≤ p4 then Q none h else zW (d + 1) m_Drawer_fill e 66 [Value.ref p0, Value.ref p1, zD, Value.int p3, Value.int p4, Value.int (0 : Int32)] [] h Q)) : zW (d + 1) m_Drawer_fill e 56 [Value.ref p0, Value.ref p1, zD, Value.int p3, Value.int p4, zD] [] h Q := zWg_run (C := zc_Drawer_fill) (B := (0, 0)) rfl rfl [13, 56, 66] 5 56 _ _ _ K
set_option maxRecDepth 100000 in
theorem b_Drawer_fill_66 {d : Nat} {e : Nat × Nat} {h : zH} {Q : zQ} {p0 : Nat} {p1 : Nat} {p3 : Int32} {p4 : Int32} {p5 : Int32} (K : (if p3 ≤ p5 then zW (d + 1) m_Drawer_fill e 56 [Value.ref p0, Value.ref p1, zD, Value.int p3, Value.int (p4 + 1), zD] [] h Q else (∃ F7, h.2 p0 = zO 2 F7) ∧ zW d m_Drawer_stampBySeed h.1 0 [Value.ref p0, Value.int p4, Value.int p5, zD, zD, zD, zD] [] h (fun r1 h2 => ∃ x3, r1 = some (Value.int x3) ∧ ((∃ F6, h2.2 p1 = zO 0 F6) ∧ zW d m_Book_putStamp h2.1 0 [Value.ref p1, Value.int p4, Value.int p5, Value.int x3] [] h2 (fun r4 h5 => r4 = none ∧ (zW (d + 1) m_Drawer_fill e 66 [Value.ref p0, Value.ref p1, zD, Value.int p3, Value.int p4, Value.int (p5 + 1)] [] h5 Q)))))) : zW (d + 1) m_Drawer_fill e 66 [Value.ref p0, Value.ref p1, zD, Value.int p3, Value.int p4, Value.int p5] [] h Q := zWg_run (C := zc_Drawer_fill) (B := (0, 0)) rfl rfl [13, 56, 66] 13 66 _ _ _ K
set_option maxRecDepth 100000 in
theorem b_Drawer_stampBySeed_0 {d : Nat} {e : Nat × Nat} {h : zH} {Q : zQ} {p0 : Nat} {p1 : Int32} {p2 : Int32} (K : (∃ F12, h.2 p0 = zO 2 F12) ∧ zW d m_Drawer_next h.1 0 [Value.ref p0] [] h (fun r1 h2 => ∃ x3, r1 = some (Value.int x3) ∧ ((∃ F11, h2.2 p0 = zO 2 F11) ∧ zW d m_Drawer_next h2.1 0 [Value.ref p0] [] h2 (fun r4 h5 => ∃ x6, r4 = some (Value.int x6) ∧ ((∃ F10, h5.2 p0 = zO 2 F10) ∧ zW d m_Drawer_next h5.1 0 [Value.ref p0] [] h5 (fun r7 h8 => ∃ x9, r7 = some (Value.int x9) ∧ (¬ (4 : Int32) = 0 ∧ ((if (x3 - x3 / (4 : Int32) * (4 : Int32)) = 0 then Q (some (Value.int (-4 : Int32))) h8 else ¬ (9 : Int32) = 0 ∧ ((if (x9 - x9 / (9 : Int32) * (9 : Int32)) = 0 then zW (d + 1) m_Drawer_stampBySeed e 40 [Value.ref p0, Value.int p1, Value.int p2, zD, Value.int x6, zD, zD] [Value.int (97 : Int32)] h8 Q else zW (d + 1) m_Drawer_stampBySeed e 40 [Value.ref p0, Value.int p1, Value.int p2, zD, Value.int x6, zD, zD] [Value.int (0 : Int32)] h8 Q))))))))))) : zW (d + 1) m_Drawer_stampBySeed e 0 [Value.ref p0, Value.int p1, Value.int p2, zD, zD, zD, zD] [] h Q := zWg_run (C := zc_Drawer_stampBySeed) (B := (0, 0)) rfl rfl [40] 19 0 _ _ _ K
set_option maxRecDepth 100000 in
theorem b_Drawer_stampBySeed_40 {d : Nat} {e : Nat × Nat} {h : zH} {Q : zQ} {p0 : Nat} {p1 : Int32} {p2 : Int32} {p4 : Int32} {s0 : Int32} (K : ∃ F1, h.2 p0 = zO 2 F1 ∧ ∃ x2, F1 0 = Value.ref x2 ∧ (∃ n3 f4, h.2 x2 = zI 0 n3 f4 ∧ zIn p2 n3 ∧ (∃ F5, h.2 p0 = zO 2 F5 ∧ ∃ x6, F5 1 = Value.ref x6 ∧ (∃ n7 f8, h.2 x6 = zI 0 n7 f8 ∧ zIn p2 n7 ∧ (¬ (3 : Int32) = 0 ∧ (Q (some (Value.int (((((f4 p2.toNatClampNeg) + ((40 : Int32) * (p1 + (1 : Int32)))) + ((f8 p2.toNatClampNeg) * p1)) + (p4 - p4 / (3 : Int32) * (3 : Int32))) + s0))) h)))))) : zW (d + 1) m_Drawer_stampBySeed e 40 [Value.ref p0, Value.int p1, Value.int p2, zD, Value.int p4, zD, zD] [Value.int s0] h Q := zWg_run (C := zc_Drawer_stampBySeed) (B := (0, 0)) rfl rfl [40] 25 40 _ _ _ K
set_option maxRecDepth 100000 in
theorem b_Drawer_next_0 {d : Nat} {e : Nat × Nat} {h : zH} {Q : zQ} {p0 : Nat} (K : ∃ F1, h.2 p0 = zO 2 F1 ∧ ∃ x2, F1 2 = Value.int x2 ∧ ((∃ F3, h.2 p0 = zO 2 F3 ∧ ∀ h4, h4 = zP h p0 (zO 2 (zU F3 2 (Value.int ((x2 * (1103515245 : Int32)) + (12345 : Int32))))) → (∃ F5, h4.2 p0 = zO 2 F5 ∧ ∃ x6, F5 2 = Value.int x6 ∧ (Q (some (Value.int (((x6.toUInt32 >>> ((16 : Int32).toUInt32 &&& Int32.toUInt32 31)).toInt32) &&& (32767 : Int32)))) h4))))) : zW (d + 1) m_Drawer_next e 0 [Value.ref p0] [] h Q := zWg_run (C := zc_Drawer_next) (B := (0, 0)) rfl rfl [] 15 0 _ _ _ K
set_option maxRecDepth 100000 in
theorem b_Line_init_0 {d : Nat} {e : Nat × Nat} {h : zH} {Q : zQ} {p0 : Nat} (K : (¬ (16 : Int32) < 0 ∧ (16 : Int32).toNatClampNeg ≤ 65536 ∧ h.1.1 + 1 ≤ e.1 + 1 ∧ h.1.2 + (16 : Int32).toNatClampNeg ≤ e.2 + 16) ∧ ∀ h1, h1 = zNew h (16 : Int32).toNatClampNeg (zI 0 (16 : Int32).toNatClampNeg (fun _ => 0)) → ((∃ F2, h1.2 p0 = zO 3 F2 ∧ ∀ h3, h3 = zP h1 p0 (zO 3 (zU F2 11 (Value.ref (8 + h.1.1)))) → ((h3.1 = (e.1 + 1, e.2 + 16) ∧ Q none h3))))) : zW (d + 1) m_Line_init e 0 [Value.ref p0] [] h Q := zWg_run (C := zc_Line_init) (B := (1, 16)) rfl rfl [] 7 0 _ _ _ K
set_option maxRecDepth 100000 in
theorem b_Line_fit_0 {d : Nat} {e : Nat × Nat} {h : zH} {Q : zQ} {p0 : Nat} {p1 : Nat} {p2 : Int32} {p3 : Int32} (K : (∃ F10, h.2 p1 = zO 0 F10) ∧ zW d m_Book_heardByBoth h.1 0 [Value.ref p1, Value.int p2, Value.int p3, zD, zD] [] h (fun r1 h2 => ∃ x3, r1 = some (Value.int x3) ∧ ((∃ F4, h2.2 p0 = zO 3 F4 ∧ ∀ h5, h5 = zP h2 p0 (zO 3 (zU F4 12 (Value.int x3))) → ((∃ F6, h5.2 p0 = zO 3 F6 ∧ ∀ h7, h7 = zP h5 p0 (zO 3 (zU F6 10 (Value.int (0 : Int32)))) → ((∃ F8, h7.2 p0 = zO 3 F8 ∧ ∀ h9, h9 = zP h7 p0 (zO 3 (zU F8 1 (Value.int (-1 : Int32)))) → (zW (d + 1) m_Line_fit e 23 [Value.ref p0, Value.ref p1, Value.int p2, Value.int p3, Value.int (0 : Int32)] [] h9 Q))))))))) : zW (d + 1) m_Line_fit e 0 [Value.ref p0, Value.ref p1, Value.int p2, Value.int p3, zD] [] h Q := zWg_run (C := zc_Line_fit) (B := (0, 0)) rfl rfl [23] 14 0 _ _ _ K
set_option maxRecDepth 100000 in
theorem b_Line_fit_23 {d : Nat} {e : Nat × Nat} {h : zH} {Q : zQ} {p0 : Nat} {p1 : Nat} {p2 : Int32} {p3 : Int32} {p4 : Int32} (K : (if (16 : Int32) < p4 then Q none h else ∃ F1, h.2 p0 = zO 3 F1 ∧ ∃ x2, F1 1 = Value.int x2 ∧ ((if x2 = (-1 : Int32) then (∃ F23, h.2 p0 = zO 3 F23) ∧ zW d m_Line_sumUp h.1 0 [Value.ref p0, Value.ref p1, Value.int p2, Value.int p3, zD, zD, zD, zD, zD, zD, zD, zD, zD] [] h (fun r3 h4 => r3 = none ∧ ((∃ F22, h4.2 p0 = zO 3 F22) ∧ zW d m_Line_findFarthest h4.1 0 [Value.ref p0, Value.ref p1, Value.int p2, Value.int p3, zD, zD, zD] [] h4 (fun r5 h6 => r5 = none ∧ (∃ F7, h6.2 p1 = zO 0 F7 ∧ ∃ x8, F7 1 = Value.int x8 ∧ (∃ F9, h6.2 p1 = zO 0 F9 ∧ ∃ x10, F9 2 = Value.int x10 ∧ ((∃ F21, h6.2 p0 = zO 3 F21) ∧ zW d m_Line_judge h6.1 0 [Value.ref p0, Value.long x8.toInt64, zD, Value.int x10] [] h6 (fun r11 h12 => ∃ x13, r11 = some (Value.int x13) ∧ ((∃ F14, h12.2 p0 = zO 3 F14 ∧ ∀ h15, h15 = zP h12 p0 (zO 3 (zU F14 1 (Value.int x13))) → (∃ F16, h15.2 p0 = zO 3 F16 ∧ ∃ x17, F16 1 = Value.int x17 ∧ ((if x17 = (-1 : Int32) then (∃ F20, h15.2 p0 = zO 3 F20) ∧ zW d m_Line_strikeFarthest h15.1 0 [Value.ref p0] [] h15 (fun r18 h19 => r18 = none ∧ (zW (d + 1) m_Line_fit e 23 [Value.ref p0, Value.ref p1, Value.int p2, Value.int p3, Value.int (p4 + 1)] [] h19 Q)) else zW (d + 1) m_Line_fit e 23 [Value.ref p0, Value.ref p1, Value.int p2, Value.int p3, Value.int (p4 + 1)] [] h15 Q)))))))))))) else Q none h)))) : zW (d + 1) m_Line_fit e 23 [Value.ref p0, Value.ref p1, Value.int p2, Value.int p3, Value.int p4] [] h Q := zWg_run (C := zc_Line_fit) (B := (0, 0)) rfl rfl [23] 34 23 _ _ _ K
set_option maxRecDepth 100000 in
theorem b_Line_judge_0 {d : Nat} {e : Nat × Nat} {h : zH} {Q : zQ} {p0 : Nat} {p1 : Int64} {p3 : Int32} (K : ∃ F1, h.2 p0 = zO 3 F1 ∧ ∃ x2, F1 2 = Value.int x2 ∧ ((if x2 < p3 then Q (some (Value.int (0 : Int32))) h else ∃ F3, h.2 p0 = zO 3 F3 ∧ ∃ x4, F3 5 = Value.long x4 ∧ ((if (lg_cmp x4 (0 : Int64)) = 0 then Q (some (Value.int (0 : Int32))) h else ∃ F5, h.2 p0 = zO 3 F5 ∧ ∃ x6, F5 9 = Value.long x6 ∧ (∃ F7, h.2 p0 = zO 3 F7 ∧ ∃ x8, F7 7 = Value.long x8 ∧ ((if 0 < (lg_cmp x6 (p1 * x8)) then ∃ F9, h.2 p0 = zO 3 F9 ∧ ∃ x10, F9 2 = Value.int x10 ∧ ((if x10 = p3 then Q (some (Value.int (1 : Int32))) h else Q (some (Value.int (-1 : Int32))) h)) else Q (some (Value.int (2 : Int32))) h)))))))) : zW (d + 1) m_Line_judge e 0 [Value.ref p0, Value.long p1, zD, Value.int p3] [] h Q := zWg_run (C := zc_Line_judge) (B := (0, 0)) rfl rfl [] 24 0 _ _ _ K
set_option maxRecDepth 100000 in
theorem b_Line_strikeFarthest_0 {d : Nat} {e : Nat × Nat} {h : zH} {Q : zQ} {p0 : Nat} (K : ∃ F1, h.2 p0 = zO 3 F1 ∧ ∃ x2, F1 8 = Value.int x2 ∧ ((if x2 < 0 then Q none h else ∃ F3, h.2 p0 = zO 3 F3 ∧ ∃ x4, F3 10 = Value.int x4 ∧ ((if (16 : Int32) ≤ x4 then Q none h else ∃ F5, h.2 p0 = zO 3 F5 ∧ ∃ x6, F5 11 = Value.ref x6 ∧ (∃ F7, h.2 p0 = zO 3 F7 ∧ ∃ x8, F7 10 = Value.int x8 ∧ (∃ F9, h.2 p0 = zO 3 F9 ∧ ∃ x10, F9 8 = Value.int x10 ∧ ((∃ n11 f12, h.2 x6 = zI 0 n11 f12 ∧ zIn x8 n11 ∧ ∀ h13, h13 = zP h x6 (zI 0 n11 (zU f12 x8.toNatClampNeg x10)) → (∃ F14, h13.2 p0 = zO 3 F14 ∧ ∃ x15, F14 10 = Value.int x15 ∧ ((∃ F16, h13.2 p0 = zO 3 F16 ∧ ∀ h17, h17 = zP h13 p0 (zO 3 (zU F16 10 (Value.int (x15 + (1 : Int32))))) → (∃ F18, h17.2 p0 = zO 3 F18 ∧ ∃ x19, F18 12 = Value.int x19 ∧ (∃ F20, h17.2 p0 = zO 3 F20 ∧ ∃ x21, F20 8 = Value.int x21 ∧ ((∃ F22, h17.2 p0 = zO 3 F22 ∧ ∀ h23, h23 = zP h17 p0 (zO 3 (zU F22 12 (Value.int (x19 &&& (((1 : Int32) <<< (x21 &&& 31)) ^^^ (-1 : Int32)))))) → (Q none h23))))))))))))))))) : zW (d + 1) m_Line_strikeFarthest e 0 [Value.ref p0] [] h Q := zWg_run (C := zc_Line_strikeFarthest) (B := (0, 0)) rfl rfl [] 32 0 _ _ _ K
set_option maxRecDepth 100000 in
theorem b_Line_sumUp_0 {d : Nat} {e : Nat × Nat} {h : zH} {Q : zQ} {p0 : Nat} {p1 : Nat} {p2 : Int32} {p3 : Int32} (K : ∃ F1, h.2 p0 = zO 3 F1 ∧ ∃ x2, F1 12 = Value.int x2 ∧ (zW d m_JInt_bitCount h.1 0 [Value.int x2] [] h (fun r3 h4 => ∃ x5, r3 = some (Value.int x5) ∧ ((∃ F6, h4.2 p0 = zO 3 F6 ∧ ∀ h7, h7 = zP h4 p0 (zO 3 (zU F6 2 (Value.int x5))) → ((∃ F8, h7.2 p0 = zO 3 F8 ∧ ∀ h9, h9 = zP h7 p0 (zO 3 (zU F8 3 (Value.long (0 : Int64)))) → ((∃ F10, h9.2 p0 = zO 3 F10 ∧ ∀ h11, h11 = zP h9 p0 (zO 3 (zU F10 4 (Value.long (0 : Int64)))) → (zW (d + 1) m_Line_sumUp e 30 [Value.ref p0, Value.ref p1, Value.int p2, Value.int p3, Value.long (0 : Int64), zD, Value.long (0 : Int64), zD, Value.int (0 : Int32), zD, zD, zD, zD] [] h11 Q)))))))))) : zW (d + 1) m_Line_sumUp e 0 [Value.ref p0, Value.ref p1, Value.int p2, Value.int p3, zD, zD, zD, zD, zD, zD, zD, zD, zD] [] h Q := zWg_run (C := zc_Line_sumUp) (B := (0, 0)) rfl rfl [30, 46, 114] 17 0 _ _ _ K
set_option maxRecDepth 100000 in
theorem b_Line_sumUp_30 {d : Nat} {e : Nat × Nat} {h : zH} {Q : zQ} {p0 : Nat} {p1 : Nat} {p2 : Int32} {p3 : Int32} {p4 : Int64} {p6 : Int64} {p8 : Int32} (K : (if (16 : Int32) ≤ p8 then zW (d + 1) m_Line_sumUp e 114 [Value.ref p0, zD, zD, zD, Value.long p4, zD, Value.long p6, zD, zD, zD, zD, zD, zD] [] h Q else (∃ F4, h.2 p0 = zO 3 F4) ∧ zW d m_Line_isLeft h.1 0 [Value.ref p0, Value.int p8] [] h (fun r1 h2 => ∃ x3, r1 = some (Value.int x3) ∧ ((if x3 = 0 then zW (d + 1) m_Line_sumUp e 30 [Value.ref p0, Value.ref p1, Value.int p2, Value.int p3, Value.long p4, zD, Value.long p6, zD, Value.int (p8 + 1), zD, zD, zD, zD] [] h2 Q else zW (d + 1) m_Line_sumUp e 46 [Value.ref p0, Value.ref p1, Value.int p2, Value.int p3, Value.long p4, zD, Value.long p6, zD, Value.int p8, zD, zD, zD, zD] [] h2 Q))))) : zW (d + 1) m_Line_sumUp e 30 [Value.ref p0, Value.ref p1, Value.int p2, Value.int p3, Value.long p4, zD, Value.long p6, zD, Value.int p8, zD, zD, zD, zD] [] h Q := zWg_run (C := zc_Line_sumUp) (B := (0, 0)) rfl rfl [30, 46, 114] 9 30 _ _ _ K
set_option maxRecDepth 100000 in
theorem b_Line_sumUp_114 {d : Nat} {e : Nat × Nat} {h : zH} {Q : zQ} {p0 : Nat} {p4 : Int64} {p6 : Int64} (K : ∃ F1, h.2 p0 = zO 3 F1 ∧ ∃ x2, F1 2 = Value.int x2 ∧ (∃ F3, h.2 p0 = zO 3 F3 ∧ ∃ x4, F3 3 = Value.long x4 ∧ (∃ F5, h.2 p0 = zO 3 F5 ∧ ∃ x6, F5 3 = Value.long x6 ∧ ((∃ F7, h.2 p0 = zO 3 F7 ∧ ∀ h8, h8 = zP h p0 (zO 3 (zU F7 5 (Value.long ((x2.toInt64 * p4) - (x4 * x6))))) → (∃ F9, h8.2 p0 = zO 3 F9 ∧ ∃ x10, F9 2 = Value.int x10 ∧ (∃ F11, h8.2 p0 = zO 3 F11 ∧ ∃ x12, F11 3 = Value.long x12 ∧ (∃ F13, h8.2 p0 = zO 3 F13 ∧ ∃ x14, F13 4 = Value.long x14 ∧ ((∃ F15, h8.2 p0 = zO 3 F15 ∧ ∀ h16, h16 = zP h8 p0 (zO 3 (zU F15 6 (Value.long ((x10.toInt64 * p6) - (x12 * x14))))) → (∃ F17, h16.2 p0 = zO 3 F17 ∧ ∃ x18, F17 2 = Value.int x18 ∧ (∃ F19, h16.2 p0 = zO 3 F19 ∧ ∃ x20, F19 5 = Value.long x20 ∧ ((∃ F21, h16.2 p0 = zO 3 F21 ∧ ∀ h22, h22 = zP h16 p0 (zO 3 (zU F21 7 (Value.long (x18.toInt64 * x20)))) → (Q none h22))))))))))))))) : zW (d + 1) m_Line_sumUp e 114 [Value.ref p0, zD, zD, zD, Value.long p4, zD, Value.long p6, zD, zD, zD, zD, zD, zD] [] h Q := zWg_run (C := zc_Line_sumUp) (B := (0, 0)) rfl rfl [30, 46, 114] 35 114 _ _ _ K
set_option maxRecDepth 100000 in
theorem b_Line_sumUp_46 {d : Nat} {e : Nat × Nat} {h : zH} {Q : zQ} {p0 : Nat} {p1 : Nat} {p2 : Int32} {p3 : Int32} {p4 : Int64} {p6 : Int64} {p8 : Int32} (K : (∃ F16, h.2 p1 = zO 0 F16) ∧ zW d m_Book_stampAt h.1 0 [Value.ref p1, Value.int p8, Value.int p2] [] h (fun r1 h2 => ∃ x3, r1 = some (Value.int x3) ∧ ((∃ F15, h2.2 p1 = zO 0 F15) ∧ zW d m_Book_stampAt h2.1 0 [Value.ref p1, Value.int p8, Value.int p3] [] h2 (fun r4 h5 => ∃ x6, r4 = some (Value.int x6) ∧ (∃ F7, h5.2 p0 = zO 3 F7 ∧ ∃ x8, F7 3 = Value.long x8 ∧ ((∃ F9, h5.2 p0 = zO 3 F9 ∧ ∀ h10, h10 = zP h5 p0 (zO 3 (zU F9 3 (Value.long (x8 + x3.toInt64)))) → (∃ F11, h10.2 p0 = zO 3 F11 ∧ ∃ x12, F11 4 = Value.long x12 ∧ ((∃ F13, h10.2 p0 = zO 3 F13 ∧ ∀ h14, h14 = zP h10 p0 (zO 3 (zU F13 4 (Value.long (x12 + x6.toInt64)))) → (zW (d + 1) m_Line_sumUp e 30 [Value.ref p0, Value.ref p1, Value.int p2, Value.int p3, Value.long (p4 + (x3.toInt64 * x3.toInt64)), zD, Value.long (p6 + (x3.toInt64 * x6.toInt64)), zD, Value.int (p8 + 1), zD, zD, zD, zD] [] h14 Q))))))))))) : zW (d + 1) m_Line_sumUp e 46 [Value.ref p0, Value.ref p1, Value.int p2, Value.int p3, Value.long p4, zD, Value.long p6, zD, Value.int p8, zD, zD, zD, zD] [] h Q := zWg_run (C := zc_Line_sumUp) (B := (0, 0)) rfl rfl [30, 46, 114] 38 46 _ _ _ K
set_option maxRecDepth 100000 in
theorem b_Line_findFarthest_0 {d : Nat} {e : Nat × Nat} {h : zH} {Q : zQ} {p0 : Nat} {p1 : Nat} {p2 : Int32} {p3 : Int32} (K : (∃ F1, h.2 p0 = zO 3 F1 ∧ ∀ h2, h2 = zP h p0 (zO 3 (zU F1 8 (Value.int (-4 : Int32)))) → ((∃ F3, h2.2 p0 = zO 3 F3 ∧ ∀ h4, h4 = zP h2 p0 (zO 3 (zU F3 9 (Value.long (-1 : Int64)))) → (zW (d + 1) m_Line_findFarthest e 16 [Value.ref p0, Value.ref p1, Value.int p2, Value.int p3, Value.int (0 : Int32), zD, zD] [] h4 Q))))) : zW (d + 1) m_Line_findFarthest e 0 [Value.ref p0, Value.ref p1, Value.int p2, Value.int p3, zD, zD, zD] [] h Q := zWg_run (C := zc_Line_findFarthest) (B := (0, 0)) rfl rfl [16] 8 0 _ _ _ K
set_option maxRecDepth 100000 in
theorem b_Line_findFarthest_16 {d : Nat} {e : Nat × Nat} {h : zH} {Q : zQ} {p0 : Nat} {p1 : Nat} {p2 : Int32} {p3 : Int32} {p4 : Int32} (K : (if (16 : Int32) ≤ p4 then Q none h else (∃ F22, h.2 p0 = zO 3 F22) ∧ zW d m_Line_isLeft h.1 0 [Value.ref p0, Value.int p4] [] h (fun r1 h2 => ∃ x3, r1 = some (Value.int x3) ∧ ((if x3 = 0 then zW (d + 1) m_Line_findFarthest e 16 [Value.ref p0, Value.ref p1, Value.int p2, Value.int p3, Value.int (p4 + 1), zD, zD] [] h2 Q else (∃ F21, h2.2 p1 = zO 0 F21) ∧ zW d m_Book_stampAt h2.1 0 [Value.ref p1, Value.int p4, Value.int p2] [] h2 (fun r4 h5 => ∃ x6, r4 = some (Value.int x6) ∧ ((∃ F20, h5.2 p1 = zO 0 F20) ∧ zW d m_Book_stampAt h5.1 0 [Value.ref p1, Value.int p4, Value.int p3] [] h5 (fun r7 h8 => ∃ x9, r7 = some (Value.int x9) ∧ ((∃ F19, h8.2 p0 = zO 3 F19) ∧ zW d m_Line_farOf h8.1 0 [Value.ref p0, Value.long x6.toInt64, zD, Value.long x9.toInt64, zD, zD, zD] [] h8 (fun r10 h11 => ∃ x12, r10 = some (Value.long x12) ∧ (∃ F13, h11.2 p0 = zO 3 F13 ∧ ∃ x14, F13 9 = Value.long x14 ∧ ((if (lg_cmp x12 x14) ≤ 0 then zW (d + 1) m_Line_findFarthest e 16 [Value.ref p0, Value.ref p1, Value.int p2, Value.int p3, Value.int (p4 + 1), zD, zD] [] h11 Q else (∃ F15, h11.2 p0 = zO 3 F15 ∧ ∀ h16, h16 = zP h11 p0 (zO 3 (zU F15 8 (Value.int p4))) → ((∃ F17, h16.2 p0 = zO 3 F17 ∧ ∀ h18, h18 = zP h16 p0 (zO 3 (zU F17 9 (Value.long x12))) → (zW (d + 1) m_Line_findFarthest e 16 [Value.ref p0, Value.ref p1, Value.int p2, Value.int p3, Value.int (p4 + 1), zD, zD] [] h18 Q))))))))))))))))) : zW (d + 1) m_Line_findFarthest e 16 [Value.ref p0, Value.ref p1, Value.int p2, Value.int p3, Value.int p4, zD, zD] [] h Q := zWg_run (C := zc_Line_findFarthest) (B := (0, 0)) rfl rfl [16] 33 16 _ _ _ K
set_option maxRecDepth 100000 in
theorem b_Line_isLeft_0 {d : Nat} {e : Nat × Nat} {h : zH} {Q : zQ} {p0 : Nat} {p1 : Int32} (K : ∃ F1, h.2 p0 = zO 3 F1 ∧ ∃ x2, F1 12 = Value.int x2 ∧ ((if ((x2 >>> (p1 &&& 31)) &&& (1 : Int32)) = (1 : Int32) then (((1 : Int32) = 0 ∨ (1 : Int32) = 1) ∧ Q (some (Value.int (1 : Int32))) h) else (((0 : Int32) = 0 ∨ (0 : Int32) = 1) ∧ Q (some (Value.int (0 : Int32))) h)))) : zW (d + 1) m_Line_isLeft e 0 [Value.ref p0, Value.int p1] [] h Q := zWg_run (C := zc_Line_isLeft) (B := (0, 0)) rfl rfl [] 11 0 _ _ _ K
set_option maxRecDepth 100000 in
theorem b_Line_farOf_0 {d : Nat} {e : Nat × Nat} {h : zH} {Q : zQ} {p0 : Nat} {p1 : Int64} {p3 : Int64} (K : ∃ F1, h.2 p0 = zO 3 F1 ∧ ∃ x2, F1 7 = Value.long x2 ∧ (∃ F3, h.2 p0 = zO 3 F3 ∧ ∃ x4, F3 4 = Value.long x4 ∧ (∃ F5, h.2 p0 = zO 3 F5 ∧ ∃ x6, F5 5 = Value.long x6 ∧ (∃ F7, h.2 p0 = zO 3 F7 ∧ ∃ x8, F7 6 = Value.long x8 ∧ (∃ F9, h.2 p0 = zO 3 F9 ∧ ∃ x10, F9 2 = Value.int x10 ∧ (∃ F11, h.2 p0 = zO 3 F11 ∧ ∃ x12, F11 3 = Value.long x12 ∧ ((if 0 ≤ (lg_cmp (((p3 * x2) - (x4 * x6)) - (x8 * ((x10.toInt64 * p1) - x12))) (0 : Int64)) then Q (some (Value.long (((p3 * x2) - (x4 * x6)) - (x8 * ((x10.toInt64 * p1) - x12))))) h else Q (some (Value.long (-(((p3 * x2) - (x4 * x6)) - (x8 * ((x10.toInt64 * p1) - x12)))))) h)))))))) : zW (d + 1) m_Line_farOf e 0 [Value.ref p0, Value.long p1, zD, Value.long p3, zD, zD, zD] [] h Q := zWg_run (C := zc_Line_farOf) (B := (0, 0)) rfl rfl [] 31 0 _ _ _ K
set_option maxRecDepth 100000 in
theorem b_Line_partsUp_0 {d : Nat} {e : Nat × Nat} {h : zH} {Q : zQ} {p0 : Nat} {p1 : Int64} (K : ∃ F1, h.2 p0 = zO 3 F1 ∧ ∃ x2, F1 7 = Value.long x2 ∧ ((if (lg_cmp x2 (0 : Int64)) = 0 then Q (some (Value.long (0 : Int64))) h else ∃ F3, h.2 p0 = zO 3 F3 ∧ ∃ x4, F3 7 = Value.long x4 ∧ (∃ F5, h.2 p0 = zO 3 F5 ∧ ∃ x6, F5 7 = Value.long x6 ∧ (¬ x6 = 0 ∧ (Q (some (Value.long (((((256 : Int64) * p1) + x4) - (1 : Int64)) / x6))) h)))))) : zW (d + 1) m_Line_partsUp e 0 [Value.ref p0, Value.long p1, zD] [] h Q := zWg_run (C := zc_Line_partsUp) (B := (0, 0)) rfl rfl [] 17 0 _ _ _ K
set_option maxRecDepth 100000 in
theorem b_Line_costOfGood_0 {d : Nat} {e : Nat × Nat} {h : zH} {Q : zQ} {p0 : Nat} (K : ∃ F1, h.2 p0 = zO 3 F1 ∧ ∃ x2, F1 9 = Value.long x2 ∧ ((∃ F6, h.2 p0 = zO 3 F6) ∧ zW d m_Line_partsUp h.1 0 [Value.ref p0, Value.long x2, zD] [] h (fun r3 h4 => ∃ x5, r3 = some (Value.long x5) ∧ (Q (some (Value.int (x5.toInt32 + (1 : Int32)))) h4)))) : zW (d + 1) m_Line_costOfGood e 0 [Value.ref p0] [] h Q := zWg_run (C := zc_Line_costOfGood) (B := (0, 0)) rfl rfl [] 8 0 _ _ _ K
set_option maxRecDepth 100000 in
theorem b_Web_init_0 {d : Nat} {e : Nat × Nat} {h : zH} {Q : zQ} {p0 : Nat} (K : (h.1.1 + 1 ≤ e.1 + 102 ∧ h.1.2 + 4 ≤ e.2 + 1593) ∧ ∀ h1, h1 = zNew h 4 (zO 0 (zDf [0, 0, 0, 2])) → ((h1.1.1 + 1 ≤ e.1 + 102 ∧ h1.1.2 + 112 ≤ e.2 + 1593) ∧ zW d m_Book_init h1.1 0 [Value.ref (8 + h.1.1)] [] h1 (fun r2 h3 => r2 = none ∧ ((∃ F4, h3.2 p0 = zO 8 F4 ∧ ∀ h5, h5 = zP h3 p0 (zO 8 (zU F4 0 (Value.ref (8 + h.1.1)))) → ((¬ (49 : Int32) < 0 ∧ (49 : Int32).toNatClampNeg ≤ 65536 ∧ h5.1.1 + 1 ≤ e.1 + 102 ∧ h5.1.2 + (49 : Int32).toNatClampNeg ≤ e.2 + 1593) ∧ ∀ h6, h6 = zNew h5 (49 : Int32).toNatClampNeg (zR 3 (49 : Int32).toNatClampNeg (fun _ => none)) → ((∃ F7, h6.2 p0 = zO 8 F7 ∧ ∀ h8, h8 = zP h6 p0 (zO 8 (zU F7 1 (Value.ref (8 + h5.1.1)))) → ((¬ (7 : Int32) < 0 ∧ (7 : Int32).toNatClampNeg ≤ 65536 ∧ h8.1.1 + 1 ≤ e.1 + 102 ∧ h8.1.2 + (7 : Int32).toNatClampNeg ≤ e.2 + 1593) ∧ ∀ h9, h9 = zNew h8 (7 : Int32).toNatClampNeg (zI 0 (7 : Int32).toNatClampNeg (fun _ => 0)) → ((∃ F10, h9.2 p0 = zO 8 F10 ∧ ∀ h11, h11 = zP h9 p0 (zO 8 (zU F10 2 (Value.ref (8 + h8.1.1)))) → (zW (d + 1) m_Web_init e 34 [Value.ref p0, Value.int (0 : Int32)] [] h11 Q)))))))))))) : zW (d + 1) m_Web_init e 0 [Value.ref p0, zD] [] h Q := zWg_run (C := zc_Web_init) (B := (102, 1593)) rfl rfl [34] 17 0 _ _ _ K
set_option maxRecDepth 100000 in
theorem b_Web_init_34 {d : Nat} {e : Nat × Nat} {h : zH} {Q : zQ} {p0 : Nat} {p1 : Int32} (K : ∃ F1, h.2 p0 = zO 8 F1 ∧ ∃ x2, F1 1 = Value.ref x2 ∧ (∃ n3 f4, h.2 x2 = zR 3 n3 f4 ∧ ((if (Int32.ofNat n3) ≤ p1 then (∃ F5, h.2 p0 = zO 8 F5 ∧ ∀ h6, h6 = zP h p0 (zO 8 (zU F5 3 (Value.int (1 : Int32)))) → (∃ F7, h6.2 p0 = zO 8 F7 ∧ ∃ x8, F7 2 = Value.ref x8 ∧ (∃ F9, h6.2 p0 = zO 8 F9 ∧ ∃ x10, F9 3 = Value.int x10 ∧ (zW d m_JArr_fillI h6.1 0 [Value.ref x8, Value.int x10, zD, zD] [] h6 (fun r11 h12 => r11 = none ∧ ((h12.1 = (e.1 + 102, e.2 + 1593) ∧ Q none h12))))))) else ∃ F13, h.2 p0 = zO 8 F13 ∧ ∃ x14, F13 1 = Value.ref x14 ∧ ((h.1.1 + 1 ≤ e.1 + 102 ∧ h.1.2 + 13 ≤ e.2 + 1593) ∧ ∀ h15, h15 = zNew h 13 (zO 3 (zDf [0, 0, 0, 1, 1, 1, 1, 1, 0, 1, 0, 2, 0])) → ((h15.1.1 + 1 ≤ e.1 + 102 ∧ h15.1.2 + 16 ≤ e.2 + 1593) ∧ zW d m_Line_init h15.1 0 [Value.ref (8 + h.1.1)] [] h15 (fun r16 h17 => r16 = none ∧ ((∃ F20, h17.2 (8 + h.1.1) = zO 3 F20) ∧ (∃ n18 f19, h17.2 x14 = zR 3 n18 f19 ∧ zIn p1 n18 ∧ ∀ h21, h21 = zP h17 x14 (zR 3 n18 (zU f19 p1.toNatClampNeg (some (8 + h.1.1)))) → (zW (d + 1) m_Web_init e 34 [Value.ref p0, Value.int (p1 + 1)] [] h21 Q)))))))))) : zW (d + 1) m_Web_init e 34 [Value.ref p0, Value.int p1] [] h Q := zWg_run (C := zc_Web_init) (B := (102, 1593)) rfl rfl [34] 14 34 _ _ _ K
set_option maxRecDepth 100000 in
theorem b_Web_touch_0 {d : Nat} {e : Nat × Nat} {h : zH} {Q : zQ} {p0 : Nat} {p1 : Int32} (K : ∃ F1, h.2 p0 = zO 8 F1 ∧ ∃ x2, F1 3 = Value.int x2 ∧ ((∃ F3, h.2 p0 = zO 8 F3 ∧ ∀ h4, h4 = zP h p0 (zO 8 (zU F3 3 (Value.int (x2 + (1 : Int32))))) → (∃ F5, h4.2 p0 = zO 8 F5 ∧ ∃ x6, F5 2 = Value.ref x6 ∧ (∃ F7, h4.2 p0 = zO 8 F7 ∧ ∃ x8, F7 3 = Value.int x8 ∧ ((∃ n9 f10, h4.2 x6 = zI 0 n9 f10 ∧ zIn p1 n9 ∧ ∀ h11, h11 = zP h4 x6 (zI 0 n9 (zU f10 p1.toNatClampNeg x8)) → (Q none h11)))))))) : zW (d + 1) m_Web_touch e 0 [Value.ref p0, Value.int p1] [] h Q := zWg_run (C := zc_Web_touch) (B := (0, 0)) rfl rfl [] 13 0 _ _ _ K
set_option maxRecDepth 100000 in
theorem b_Web_touchAll_0 {d : Nat} {e : Nat × Nat} {h : zH} {Q : zQ} {p0 : Nat} (K : ∃ F1, h.2 p0 = zO 8 F1 ∧ ∃ x2, F1 3 = Value.int x2 ∧ ((∃ F3, h.2 p0 = zO 8 F3 ∧ ∀ h4, h4 = zP h p0 (zO 8 (zU F3 3 (Value.int (x2 + (1 : Int32))))) → (∃ F5, h4.2 p0 = zO 8 F5 ∧ ∃ x6, F5 2 = Value.ref x6 ∧ (∃ F7, h4.2 p0 = zO 8 F7 ∧ ∃ x8, F7 3 = Value.int x8 ∧ (zW d m_JArr_fillI h4.1 0 [Value.ref x6, Value.int x8, zD, zD] [] h4 (fun r9 h10 => r9 = none ∧ (Q none h10)))))))) : zW (d + 1) m_Web_touchAll e 0 [Value.ref p0] [] h Q := zWg_run (C := zc_Web_touchAll) (B := (0, 0)) rfl rfl [] 12 0 _ _ _ K
set_option maxRecDepth 100000 in
theorem b_Web_lineOf_0 {d : Nat} {e : Nat × Nat} {h : zH} {Q : zQ} {p0 : Nat} {p1 : Int32} {p2 : Int32} (K : ∃ F1, h.2 p0 = zO 8 F1 ∧ ∃ x2, F1 1 = Value.ref x2 ∧ (∃ n3 f4, h.2 x2 = zR 3 n3 f4 ∧ zIn ((p1 * (7 : Int32)) + p2) n3 ∧ ∃ x5, f4 ((p1 * (7 : Int32)) + p2).toNatClampNeg = some x5 ∧ (∃ F6, h.2 x5 = zO 3 F6 ∧ ∃ x7, F6 0 = Value.int x7 ∧ (∃ F8, h.2 p0 = zO 8 F8 ∧ ∃ x9, F8 2 = Value.ref x9 ∧ (∃ n10 f11, h.2 x9 = zI 0 n10 f11 ∧ zIn p1 n10 ∧ ((if x7 < (f11 p1.toNatClampNeg) then ∃ F12, h.2 p0 = zO 8 F12 ∧ ∃ x13, F12 0 = Value.ref x13 ∧ ((∃ F20, h.2 x5 = zO 3 F20) ∧ zW d m_Line_fit h.1 0 [Value.ref x5, Value.ref x13, Value.int p1, Value.int p2, zD] [] h (fun r14 h15 => r14 = none ∧ (∃ F16, h15.2 p0 = zO 8 F16 ∧ ∃ x17, F16 3 = Value.int x17 ∧ ((∃ F18, h15.2 x5 = zO 3 F18 ∧ ∀ h19, h19 = zP h15 x5 (zO 3 (zU F18 0 (Value.int x17))) → (Q (some (Value.ref x5)) h19)))))) else ∃ F21, h.2 x5 = zO 3 F21 ∧ ∃ x22, F21 0 = Value.int x22 ∧ (∃ F23, h.2 p0 = zO 8 F23 ∧ ∃ x24, F23 2 = Value.ref x24 ∧ (∃ n25 f26, h.2 x24 = zI 0 n25 f26 ∧ zIn p2 n25 ∧ ((if (f26 p2.toNatClampNeg) ≤ x22 then Q (some (Value.ref x5)) h else ∃ F27, h.2 p0 = zO 8 F27 ∧ ∃ x28, F27 0 = Value.ref x28 ∧ ((∃ F35, h.2 x5 = zO 3 F35) ∧ zW d m_Line_fit h.1 0 [Value.ref x5, Value.ref x28, Value.int p1, Value.int p2, zD] [] h (fun r29 h30 => r29 = none ∧ (∃ F31, h30.2 p0 = zO 8 F31 ∧ ∃ x32, F31 3 = Value.int x32 ∧ ((∃ F33, h30.2 x5 = zO 3 F33 ∧ ∀ h34, h34 = zP h30 x5 (zO 3 (zU F33 0 (Value.int x32))) → (Q (some (Value.ref x5)) h34))))))))))))))))) : zW (d + 1) m_Web_lineOf e 0 [Value.ref p0, Value.int p1, Value.int p2, zD] [] h Q := zWg_run (C := zc_Web_lineOf) (B := (0, 0)) rfl rfl [] 35 0 _ _ _ K
set_option maxRecDepth 100000 in
theorem b_Web_isKind_0 {d : Nat} {e : Nat × Nat} {h : zH} {Q : zQ} {p0 : Nat} {p1 : Int32} {p2 : Int32} {p3 : Int32} (K : (if p1 = p2 then (((0 : Int32) = 0 ∨ (0 : Int32) = 1) ∧ Q (some (Value.int (0 : Int32))) h) else (∃ F6, h.2 p0 = zO 8 F6) ∧ zW d m_Web_lineOf h.1 0 [Value.ref p0, Value.int p1, Value.int p2, zD] [] h (fun r1 h2 => ∃ x3, r1 = some (Value.ref x3) ∧ (∃ F4, h2.2 x3 = zO 3 F4 ∧ ∃ x5, F4 1 = Value.int x5 ∧ ((if x5 = p3 then (((1 : Int32) = 0 ∨ (1 : Int32) = 1) ∧ Q (some (Value.int (1 : Int32))) h2) else (((0 : Int32) = 0 ∨ (0 : Int32) = 1) ∧ Q (some (Value.int (0 : Int32))) h2))))))) : zW (d + 1) m_Web_isKind e 0 [Value.ref p0, Value.int p1, Value.int p2, Value.int p3] [] h Q := zWg_run (C := zc_Web_isKind) (B := (0, 0)) rfl rfl [] 13 0 _ _ _ K
set_option maxRecDepth 100000 in
theorem b_Web_linesOfKind_0 {d : Nat} {e : Nat × Nat} {h : zH} {Q : zQ} {p0 : Nat} {p1 : Int32} (K : zW (d + 1) m_Web_linesOfKind e 4 [Value.ref p0, Value.int p1, Value.int (0 : Int32), Value.int (0 : Int32), zD] [] h Q) : zW (d + 1) m_Web_linesOfKind e 0 [Value.ref p0, Value.int p1, zD, zD, zD] [] h Q := zWg_run (C := zc_Web_linesOfKind) (B := (0, 0)) rfl rfl [4, 18] 4 0 _ _ _ K
set_option maxRecDepth 100000 in
theorem b_Web_linesOfKind_4 {d : Nat} {e : Nat × Nat} {h : zH} {Q : zQ} {p0 : Nat} {p1 : Int32} {p2 : Int32} {p3 : Int32} (K : ∃ F1, h.2 p0 = zO 8 F1 ∧ ∃ x2, F1 0 = Value.ref x2 ∧ (∃ F3, h.2 x2 = zO 0 F3 ∧ ∃ x4, F3 0 = Value.int x4 ∧ ((if x4 ≤ p3 then Q (some (Value.int p2)) h else zW (d + 1) m_Web_linesOfKind e 18 [Value.ref p0, Value.int p1, Value.int p2, Value.int p3, Value.int (0 : Int32)] [] h Q)))) : zW (d + 1) m_Web_linesOfKind e 4 [Value.ref p0, Value.int p1, Value.int p2, Value.int p3, zD] [] h Q := zWg_run (C := zc_Web_linesOfKind) (B := (0, 0)) rfl rfl [4, 18] 7 4 _ _ _ K
set_option maxRecDepth 100000 in
theorem b_Web_linesOfKind_18 {d : Nat} {e : Nat × Nat} {h : zH} {Q : zQ} {p0 : Nat} {p1 : Int32} {p2 : Int32} {p3 : Int32} {p4 : Int32} (K : ∃ F1, h.2 p0 = zO 8 F1 ∧ ∃ x2, F1 0 = Value.ref x2 ∧ (∃ F3, h.2 x2 = zO 0 F3 ∧ ∃ x4, F3 0 = Value.int x4 ∧ ((if x4 ≤ p4 then zW (d + 1) m_Web_linesOfKind e 4 [Value.ref p0, Value.int p1, Value.int p2, Value.int (p3 + 1), zD] [] h Q else (∃ F8, h.2 p0 = zO 8 F8) ∧ zW d m_Web_isKind h.1 0 [Value.ref p0, Value.int p3, Value.int p4, Value.int p1] [] h (fun r5 h6 => ∃ x7, r5 = some (Value.int x7) ∧ ((if x7 = 0 then zW (d + 1) m_Web_linesOfKind e 18 [Value.ref p0, Value.int p1, Value.int p2, Value.int p3, Value.int (p4 + 1)] [] h6 Q else zW (d + 1) m_Web_linesOfKind e 18 [Value.ref p0, Value.int p1, Value.int (p2 + 1), Value.int p3, Value.int (p4 + 1)] [] h6 Q))))))) : zW (d + 1) m_Web_linesOfKind e 18 [Value.ref p0, Value.int p1, Value.int p2, Value.int p3, Value.int p4] [] h Q := zWg_run (C := zc_Web_linesOfKind) (B := (0, 0)) rfl rfl [4, 18] 14 18 _ _ _ K
set_option maxRecDepth 100000 in
theorem b_Web_goodLinesFrom_0 {d : Nat} {e : Nat × Nat} {h : zH} {Q : zQ} {p0 : Nat} {p1 : Int32} (K : zW (d + 1) m_Web_goodLinesFrom e 4 [Value.ref p0, Value.int p1, Value.int (0 : Int32), Value.int (0 : Int32)] [] h Q) : zW (d + 1) m_Web_goodLinesFrom e 0 [Value.ref p0, Value.int p1, zD, zD] [] h Q := zWg_run (C := zc_Web_goodLinesFrom) (B := (0, 0)) rfl rfl [4] 4 0 _ _ _ K
set_option maxRecDepth 100000 in
theorem b_Web_goodLinesFrom_4 {d : Nat} {e : Nat × Nat} {h : zH} {Q : zQ} {p0 : Nat} {p1 : Int32} {p2 : Int32} {p3 : Int32} (K : ∃ F1, h.2 p0 = zO 8 F1 ∧ ∃ x2, F1 0 = Value.ref x2 ∧ (∃ F3, h.2 x2 = zO 0 F3 ∧ ∃ x4, F3 0 = Value.int x4 ∧ ((if x4 ≤ p3 then Q (some (Value.int p2)) h else (∃ F8, h.2 p0 = zO 8 F8) ∧ zW d m_Web_isKind h.1 0 [Value.ref p0, Value.int p1, Value.int p3, Value.int (2 : Int32)] [] h (fun r5 h6 => ∃ x7, r5 = some (Value.int x7) ∧ ((if x7 = 0 then zW (d + 1) m_Web_goodLinesFrom e 4 [Value.ref p0, Value.int p1, Value.int p2, Value.int (p3 + 1)] [] h6 Q else zW (d + 1) m_Web_goodLinesFrom e 4 [Value.ref p0, Value.int p1, Value.int (p2 + 1), Value.int (p3 + 1)] [] h6 Q))))))) : zW (d + 1) m_Web_goodLinesFrom e 4 [Value.ref p0, Value.int p1, Value.int p2, Value.int p3] [] h Q := zWg_run (C := zc_Web_goodLinesFrom) (B := (0, 0)) rfl rfl [4] 14 4 _ _ _ K
set_option maxRecDepth 100000 in
theorem b_Web_goodLinesTo_0 {d : Nat} {e : Nat × Nat} {h : zH} {Q : zQ} {p0 : Nat} {p1 : Int32} (K : zW (d + 1) m_Web_goodLinesTo e 4 [Value.ref p0, Value.int p1, Value.int (0 : Int32), Value.int (0 : Int32)] [] h Q) : zW (d + 1) m_Web_goodLinesTo e 0 [Value.ref p0, Value.int p1, zD, zD] [] h Q := zWg_run (C := zc_Web_goodLinesTo) (B := (0, 0)) rfl rfl [4] 4 0 _ _ _ K
set_option maxRecDepth 100000 in
theorem b_Web_goodLinesTo_4 {d : Nat} {e : Nat × Nat} {h : zH} {Q : zQ} {p0 : Nat} {p1 : Int32} {p2 : Int32} {p3 : Int32} (K : ∃ F1, h.2 p0 = zO 8 F1 ∧ ∃ x2, F1 0 = Value.ref x2 ∧ (∃ F3, h.2 x2 = zO 0 F3 ∧ ∃ x4, F3 0 = Value.int x4 ∧ ((if x4 ≤ p3 then Q (some (Value.int p2)) h else (∃ F8, h.2 p0 = zO 8 F8) ∧ zW d m_Web_isKind h.1 0 [Value.ref p0, Value.int p3, Value.int p1, Value.int (2 : Int32)] [] h (fun r5 h6 => ∃ x7, r5 = some (Value.int x7) ∧ ((if x7 = 0 then zW (d + 1) m_Web_goodLinesTo e 4 [Value.ref p0, Value.int p1, Value.int p2, Value.int (p3 + 1)] [] h6 Q else zW (d + 1) m_Web_goodLinesTo e 4 [Value.ref p0, Value.int p1, Value.int (p2 + 1), Value.int (p3 + 1)] [] h6 Q))))))) : zW (d + 1) m_Web_goodLinesTo e 4 [Value.ref p0, Value.int p1, Value.int p2, Value.int p3] [] h Q := zWg_run (C := zc_Web_goodLinesTo) (B := (0, 0)) rfl rfl [4] 14 4 _ _ _ K
set_option maxRecDepth 100000 in
theorem b_Web_allStrikes_0 {d : Nat} {e : Nat × Nat} {h : zH} {Q : zQ} {p0 : Nat} (K : zW (d + 1) m_Web_allStrikes e 4 [Value.ref p0, Value.int (0 : Int32), Value.int (0 : Int32), zD] [] h Q) : zW (d + 1) m_Web_allStrikes e 0 [Value.ref p0, zD, zD, zD] [] h Q := zWg_run (C := zc_Web_allStrikes) (B := (0, 0)) rfl rfl [4, 17] 4 0 _ _ _ K
set_option maxRecDepth 100000 in
theorem b_Web_allStrikes_4 {d : Nat} {e : Nat × Nat} {h : zH} {Q : zQ} {p0 : Nat} {p1 : Int32} {p2 : Int32} (K : ∃ F1, h.2 p0 = zO 8 F1 ∧ ∃ x2, F1 0 = Value.ref x2 ∧ (∃ F3, h.2 x2 = zO 0 F3 ∧ ∃ x4, F3 0 = Value.int x4 ∧ ((if x4 ≤ p2 then Q (some (Value.int p1)) h else zW (d + 1) m_Web_allStrikes e 17 [Value.ref p0, Value.int p1, Value.int p2, Value.int (0 : Int32)] [] h Q)))) : zW (d + 1) m_Web_allStrikes e 4 [Value.ref p0, Value.int p1, Value.int p2, zD] [] h Q := zWg_run (C := zc_Web_allStrikes) (B := (0, 0)) rfl rfl [4, 17] 7 4 _ _ _ K
set_option maxRecDepth 100000 in
theorem b_Web_allStrikes_17 {d : Nat} {e : Nat × Nat} {h : zH} {Q : zQ} {p0 : Nat} {p1 : Int32} {p2 : Int32} {p3 : Int32} (K : ∃ F1, h.2 p0 = zO 8 F1 ∧ ∃ x2, F1 0 = Value.ref x2 ∧ (∃ F3, h.2 x2 = zO 0 F3 ∧ ∃ x4, F3 0 = Value.int x4 ∧ ((if x4 ≤ p3 then zW (d + 1) m_Web_allStrikes e 4 [Value.ref p0, Value.int p1, Value.int (p2 + 1), zD] [] h Q else (if p2 = p3 then zW (d + 1) m_Web_allStrikes e 17 [Value.ref p0, Value.int p1, Value.int p2, Value.int (p3 + 1)] [] h Q else (∃ F10, h.2 p0 = zO 8 F10) ∧ zW d m_Web_lineOf h.1 0 [Value.ref p0, Value.int p2, Value.int p3, zD] [] h (fun r5 h6 => ∃ x7, r5 = some (Value.ref x7) ∧ (∃ F8, h6.2 x7 = zO 3 F8 ∧ ∃ x9, F8 10 = Value.int x9 ∧ (zW (d + 1) m_Web_allStrikes e 17 [Value.ref p0, Value.int (p1 + x9), Value.int p2, Value.int (p3 + 1)] [] h6 Q)))))))) : zW (d + 1) m_Web_allStrikes e 17 [Value.ref p0, Value.int p1, Value.int p2, Value.int p3] [] h Q := zWg_run (C := zc_Web_allStrikes) (B := (0, 0)) rfl rfl [4, 17] 18 17 _ _ _ K
set_option maxRecDepth 100000 in
theorem b_Chains_init_0 {d : Nat} {e : Nat × Nat} {h : zH} {Q : zQ} {p0 : Nat} (K : (¬ (49 : Int32) < 0 ∧ (49 : Int32).toNatClampNeg ≤ 65536 ∧ h.1.1 + 1 ≤ e.1 + 2 ∧ h.1.2 + (49 : Int32).toNatClampNeg ≤ e.2 + 56) ∧ ∀ h1, h1 = zNew h (49 : Int32).toNatClampNeg (zI 0 (49 : Int32).toNatClampNeg (fun _ => 0)) → ((∃ F2, h1.2 p0 = zO 1 F2 ∧ ∀ h3, h3 = zP h1 p0 (zO 1 (zU F2 2 (Value.ref (8 + h.1.1)))) → ((¬ (7 : Int32) < 0 ∧ (7 : Int32).toNatClampNeg ≤ 65536 ∧ h3.1.1 + 1 ≤ e.1 + 2 ∧ h3.1.2 + (7 : Int32).toNatClampNeg ≤ e.2 + 56) ∧ ∀ h4, h4 = zNew h3 (7 : Int32).toNatClampNeg (zI 0 (7 : Int32).toNatClampNeg (fun _ => 0)) → ((∃ F5, h4.2 p0 = zO 1 F5 ∧ ∀ h6, h6 = zP h4 p0 (zO 1 (zU F5 3 (Value.ref (8 + h3.1.1)))) → ((h6.1 = (e.1 + 2, e.2 + 56) ∧ Q none h6)))))))) : zW (d + 1) m_Chains_init e 0 [Value.ref p0] [] h Q := zWg_run (C := zc_Chains_init) (B := (2, 56)) rfl rfl [] 11 0 _ _ _ K
set_option maxRecDepth 100000 in
theorem b_Chains_renew_0 {d : Nat} {e : Nat × Nat} {h : zH} {Q : zQ} {p0 : Nat} {p1 : Nat} (K : ∃ F1, h.2 p1 = zO 8 F1 ∧ ∃ x2, F1 0 = Value.ref x2 ∧ (∃ F3, h.2 x2 = zO 0 F3 ∧ ∃ x4, F3 0 = Value.int x4 ∧ ((∃ F5, h.2 p0 = zO 1 F5 ∧ ∀ h6, h6 = zP h p0 (zO 1 (zU F5 0 (Value.int x4))) → (zW (d + 1) m_Chains_renew e 13 [Value.ref p0, Value.ref p1, Value.int (0 : Int32), zD, zD] [] h6 Q))))) : zW (d + 1) m_Chains_renew e 0 [Value.ref p0, Value.ref p1, zD, zD, zD] [] h Q := zWg_run (C := zc_Chains_renew) (B := (0, 0)) rfl rfl [13, 23, 41] 7 0 _ _ _ K
set_option maxRecDepth 100000 in
theorem b_Chains_renew_13 {d : Nat} {e : Nat × Nat} {h : zH} {Q : zQ} {p0 : Nat} {p1 : Nat} {p2 : Int32} (K : ∃ F1, h.2 p0 = zO 1 F1 ∧ ∃ x2, F1 0 = Value.int x2 ∧ ((if x2 ≤ p2 then Q none h else zW (d + 1) m_Chains_renew e 23 [Value.ref p0, Value.ref p1, Value.int p2, Value.int (0 : Int32), zD] [] h Q))) : zW (d + 1) m_Chains_renew e 13 [Value.ref p0, Value.ref p1, Value.int p2, zD, zD] [] h Q := zWg_run (C := zc_Chains_renew) (B := (0, 0)) rfl rfl [13, 23, 41] 6 13 _ _ _ K
set_option maxRecDepth 100000 in
theorem b_Chains_renew_23 {d : Nat} {e : Nat × Nat} {h : zH} {Q : zQ} {p0 : Nat} {p1 : Nat} {p2 : Int32} {p3 : Int32} (K : ∃ F1, h.2 p0 = zO 1 F1 ∧ ∃ x2, F1 0 = Value.int x2 ∧ ((if x2 ≤ p3 then zW (d + 1) m_Chains_renew e 13 [Value.ref p0, Value.ref p1, Value.int (p2 + 1), zD, zD] [] h Q else (if p2 = p3 then zW (d + 1) m_Chains_renew e 41 [Value.ref p0, Value.ref p1, Value.int p2, Value.int p3, zD] [Value.int (0 : Int32)] h Q else zW (d + 1) m_Chains_renew e 41 [Value.ref p0, Value.ref p1, Value.int p2, Value.int p3, zD] [Value.int (1 : Int32)] h Q)))) : zW (d + 1) m_Chains_renew e 23 [Value.ref p0, Value.ref p1, Value.int p2, Value.int p3, zD] [] h Q := zWg_run (C := zc_Chains_renew) (B := (0, 0)) rfl rfl [13, 23, 41] 9 23 _ _ _ K
set_option maxRecDepth 100000 in
theorem b_Chains_renew_41 {d : Nat} {e : Nat × Nat} {h : zH} {Q : zQ} {p0 : Nat} {p1 : Nat} {p2 : Int32} {p3 : Int32} {s0 : Int32} (K : ∃ F1, h.2 p0 = zO 1 F1 ∧ ∃ x2, F1 2 = Value.ref x2 ∧ ((if s0 = 0 then (∃ n3 f4, h.2 x2 = zI 0 n3 f4 ∧ zIn ((p2 * (7 : Int32)) + p3) n3 ∧ ∀ h5, h5 = zP h x2 (zI 0 n3 (zU f4 ((p2 * (7 : Int32)) + p3).toNatClampNeg (-4 : Int32))) → (zW (d + 1) m_Chains_renew e 23 [Value.ref p0, Value.ref p1, Value.int p2, Value.int (p3 + 1), zD] [] h5 Q)) else (∃ F15, h.2 p1 = zO 8 F15) ∧ zW d m_Web_lineOf h.1 0 [Value.ref p1, Value.int p2, Value.int p3, zD] [] h (fun r6 h7 => ∃ x8, r6 = some (Value.ref x8) ∧ (zW d m_Chains_weightOf h7.1 0 [Value.ref x8] [] h7 (fun r9 h10 => ∃ x11, r9 = some (Value.int x11) ∧ ((∃ n12 f13, h10.2 x2 = zI 0 n12 f13 ∧ zIn ((p2 * (7 : Int32)) + p3) n12 ∧ ∀ h14, h14 = zP h10 x2 (zI 0 n12 (zU f13 ((p2 * (7 : Int32)) + p3).toNatClampNeg x11)) → (zW (d + 1) m_Chains_renew e 23 [Value.ref p0, Value.ref p1, Value.int p2, Value.int (p3 + 1), zD] [] h14 Q))))))))) : zW (d + 1) m_Chains_renew e 41 [Value.ref p0, Value.ref p1, Value.int p2, Value.int p3, zD] [Value.int s0] h Q := zWg_run (C := zc_Chains_renew) (B := (0, 0)) rfl rfl [13, 23, 41] 19 41 _ _ _ K
set_option maxRecDepth 100000 in
theorem b_Chains_weightOf_0 {d : Nat} {e : Nat × Nat} {h : zH} {Q : zQ} {p0 : Nat} (K : ∃ F1, h.2 p0 = zO 3 F1 ∧ ∃ x2, F1 1 = Value.int x2 ∧ ((if x2 = (2 : Int32) then (∃ F6, h.2 p0 = zO 3 F6) ∧ zW d m_Line_costOfGood h.1 0 [Value.ref p0] [] h (fun r3 h4 => ∃ x5, r3 = some (Value.int x5) ∧ (Q (some (Value.int ((x5 <<< ((3 : Int32) &&& 31)) + (1 : Int32)))) h4)) else Q (some (Value.int (-4 : Int32))) h))) : zW (d + 1) m_Chains_weightOf e 0 [Value.ref p0] [] h Q := zWg_run (C := zc_Chains_weightOf) (B := (0, 0)) rfl rfl [] 12 0 _ _ _ K
set_option maxRecDepth 100000 in
theorem b_Chains_reachingPairs_0 {d : Nat} {e : Nat × Nat} {h : zH} {Q : zQ} {p0 : Nat} (K : zW (d + 1) m_Chains_reachingPairs e 4 [Value.ref p0, Value.int (0 : Int32), Value.int (0 : Int32), zD] [] h Q) : zW (d + 1) m_Chains_reachingPairs e 0 [Value.ref p0, zD, zD, zD] [] h Q := zWg_run (C := zc_Chains_reachingPairs) (B := (0, 0)) rfl rfl [4, 19] 4 0 _ _ _ K
set_option maxRecDepth 100000 in
theorem b_Chains_reachingPairs_4 {d : Nat} {e : Nat × Nat} {h : zH} {Q : zQ} {p0 : Nat} {p1 : Int32} {p2 : Int32} (K : ∃ F1, h.2 p0 = zO 1 F1 ∧ ∃ x2, F1 0 = Value.int x2 ∧ ((if x2 ≤ p2 then Q (some (Value.int p1)) h else (∃ F5, h.2 p0 = zO 1 F5) ∧ zW d m_Chains_aimAt h.1 0 [Value.ref p0, Value.int p2, zD, zD, zD] [] h (fun r3 h4 => r3 = none ∧ (zW (d + 1) m_Chains_reachingPairs e 19 [Value.ref p0, Value.int p1, Value.int p2, Value.int (0 : Int32)] [] h4 Q))))) : zW (d + 1) m_Chains_reachingPairs e 4 [Value.ref p0, Value.int p1, Value.int p2, zD] [] h Q := zWg_run (C := zc_Chains_reachingPairs) (B := (0, 0)) rfl rfl [4, 19] 9 4 _ _ _ K
set_option maxRecDepth 100000 in
theorem b_Chains_reachingPairs_19 {d : Nat} {e : Nat × Nat} {h : zH} {Q : zQ} {p0 : Nat} {p1 : Int32} {p2 : Int32} {p3 : Int32} (K : ∃ F1, h.2 p0 = zO 1 F1 ∧ ∃ x2, F1 0 = Value.int x2 ∧ ((if x2 ≤ p3 then zW (d + 1) m_Chains_reachingPairs e 4 [Value.ref p0, Value.int p1, Value.int (p2 + 1), zD] [] h Q else (if p3 = p2 then zW (d + 1) m_Chains_reachingPairs e 19 [Value.ref p0, Value.int p1, Value.int p2, Value.int (p3 + 1)] [] h Q else (∃ F6, h.2 p0 = zO 1 F6) ∧ zW d m_Chains_reachesAim h.1 0 [Value.ref p0, Value.int p3] [] h (fun r3 h4 => ∃ x5, r3 = some (Value.int x5) ∧ ((if x5 = 0 then zW (d + 1) m_Chains_reachingPairs e 19 [Value.ref p0, Value.int p1, Value.int p2, Value.int (p3 + 1)] [] h4 Q else zW (d + 1) m_Chains_reachingPairs e 19 [Value.ref p0, Value.int (p1 + 1), Value.int p2, Value.int (p3 + 1)] [] h4 Q))))))) : zW (d + 1) m_Chains_reachingPairs e 19 [Value.ref p0, Value.int p1, Value.int p2, Value.int p3] [] h Q := zWg_run (C := zc_Chains_reachingPairs) (B := (0, 0)) rfl rfl [4, 19] 14 19 _ _ _ K
set_option maxRecDepth 100000 in
theorem b_Chains_reachedFrom_0 {d : Nat} {e : Nat × Nat} {h : zH} {Q : zQ} {p0 : Nat} {p1 : Int32} (K : zW (d + 1) m_Chains_reachedFrom e 4 [Value.ref p0, Value.int p1, Value.int (0 : Int32), Value.int (0 : Int32)] [] h Q) : zW (d + 1) m_Chains_reachedFrom e 0 [Value.ref p0, Value.int p1, zD, zD] [] h Q := zWg_run (C := zc_Chains_reachedFrom) (B := (0, 0)) rfl rfl [4] 4 0 _ _ _ K
set_option maxRecDepth 100000 in
theorem b_Chains_reachedFrom_4 {d : Nat} {e : Nat × Nat} {h : zH} {Q : zQ} {p0 : Nat} {p1 : Int32} {p2 : Int32} {p3 : Int32} (K : ∃ F1, h.2 p0 = zO 1 F1 ∧ ∃ x2, F1 0 = Value.int x2 ∧ ((if x2 ≤ p3 then Q (some (Value.int p2)) h else (∃ F6, h.2 p0 = zO 1 F6) ∧ zW d m_Chains_reaches h.1 0 [Value.ref p0, Value.int p1, Value.int p3] [] h (fun r3 h4 => ∃ x5, r3 = some (Value.int x5) ∧ ((if x5 = 0 then zW (d + 1) m_Chains_reachedFrom e 4 [Value.ref p0, Value.int p1, Value.int p2, Value.int (p3 + 1)] [] h4 Q else zW (d + 1) m_Chains_reachedFrom e 4 [Value.ref p0, Value.int p1, Value.int (p2 + 1), Value.int (p3 + 1)] [] h4 Q)))))) : zW (d + 1) m_Chains_reachedFrom e 4 [Value.ref p0, Value.int p1, Value.int p2, Value.int p3] [] h Q := zWg_run (C := zc_Chains_reachedFrom) (B := (0, 0)) rfl rfl [4] 12 4 _ _ _ K
set_option maxRecDepth 100000 in
theorem b_Chains_reaches_0 {d : Nat} {e : Nat × Nat} {h : zH} {Q : zQ} {p0 : Nat} {p1 : Int32} {p2 : Int32} (K : (∃ F7, h.2 p0 = zO 1 F7) ∧ zW d m_Chains_aimAt h.1 0 [Value.ref p0, Value.int p2, zD, zD, zD] [] h (fun r1 h2 => r1 = none ∧ ((∃ F6, h2.2 p0 = zO 1 F6) ∧ zW d m_Chains_reachesAim h2.1 0 [Value.ref p0, Value.int p1] [] h2 (fun r3 h4 => ∃ x5, r3 = some (Value.int x5) ∧ (((x5 = 0 ∨ x5 = 1) ∧ Q (some (Value.int x5)) h4)))))) : zW (d + 1) m_Chains_reaches e 0 [Value.ref p0, Value.int p1, Value.int p2] [] h Q := zWg_run (C := zc_Chains_reaches) (B := (0, 0)) rfl rfl [] 7 0 _ _ _ K
set_option maxRecDepth 100000 in
theorem b_Chains_aimAt_0 {d : Nat} {e : Nat × Nat} {h : zH} {Q : zQ} {p0 : Nat} {p1 : Int32} (K : (∃ F1, h.2 p0 = zO 1 F1 ∧ ∀ h2, h2 = zP h p0 (zO 1 (zU F1 1 (Value.int p1))) → (∃ F3, h2.2 p0 = zO 1 F3 ∧ ∃ x4, F3 3 = Value.ref x4 ∧ (zW d m_JArr_fillI h2.1 0 [Value.ref x4, Value.int (-4 : Int32), zD, zD] [] h2 (fun r5 h6 => r5 = none ∧ (∃ F7, h6.2 p0 = zO 1 F7 ∧ ∃ x8, F7 3 = Value.ref x8 ∧ ((∃ n9 f10, h6.2 x8 = zI 0 n9 f10 ∧ zIn p1 n9 ∧ ∀ h11, h11 = zP h6 x8 (zI 0 n9 (zU f10 p1.toNatClampNeg (0 : Int32))) → (zW (d + 1) m_Chains_aimAt e 25 [Value.ref p0, zD, Value.int (1 : Int32), Value.int (0 : Int32), zD] [] h11 Q))))))))) : zW (d + 1) m_Chains_aimAt e 0 [Value.ref p0, Value.int p1, zD, zD, zD] [] h Q := zWg_run (C := zc_Chains_aimAt) (B := (0, 0)) rfl rfl [25, 40] 16 0 _ _ _ K
set_option maxRecDepth 100000 in
theorem b_Chains_aimAt_25 {d : Nat} {e : Nat × Nat} {h : zH} {Q : zQ} {p0 : Nat} {p2 : Int32} {p3 : Int32} (K : (if p2 = 0 then Q none h else (if (7 : Int32) ≤ p3 then Q none h else zW (d + 1) m_Chains_aimAt e 40 [Value.ref p0, zD, Value.int (0 : Int32), Value.int p3, Value.int (0 : Int32)] [] h Q))) : zW (d + 1) m_Chains_aimAt e 25 [Value.ref p0, zD, Value.int p2, Value.int p3, zD] [] h Q := zWg_run (C := zc_Chains_aimAt) (B := (0, 0)) rfl rfl [25, 40] 9 25 _ _ _ K
set_option maxRecDepth 100000 in
theorem b_Chains_aimAt_40 {d : Nat} {e : Nat × Nat} {h : zH} {Q : zQ} {p0 : Nat} {p2 : Int32} {p3 : Int32} {p4 : Int32} (K : ∃ F1, h.2 p0 = zO 1 F1 ∧ ∃ x2, F1 0 = Value.int x2 ∧ ((if x2 ≤ p4 then zW (d + 1) m_Chains_aimAt e 25 [Value.ref p0, zD, Value.int p2, Value.int (p3 + 1), zD] [] h Q else (∃ F6, h.2 p0 = zO 1 F6) ∧ zW d m_Chains_improve h.1 0 [Value.ref p0, Value.int p4, zD, zD, zD] [] h (fun r3 h4 => ∃ x5, r3 = some (Value.int x5) ∧ ((if x5 = 0 then zW (d + 1) m_Chains_aimAt e 40 [Value.ref p0, zD, Value.int p2, Value.int p3, Value.int (p4 + 1)] [] h4 Q else zW (d + 1) m_Chains_aimAt e 40 [Value.ref p0, zD, Value.int (1 : Int32), Value.int p3, Value.int (p4 + 1)] [] h4 Q)))))) : zW (d + 1) m_Chains_aimAt e 40 [Value.ref p0, zD, Value.int p2, Value.int p3, Value.int p4] [] h Q := zWg_run (C := zc_Chains_aimAt) (B := (0, 0)) rfl rfl [25, 40] 12 40 _ _ _ K
set_option maxRecDepth 100000 in
theorem b_Chains_improve_0 {d : Nat} {e : Nat × Nat} {h : zH} {Q : zQ} {p0 : Nat} {p1 : Int32} (K : zW (d + 1) m_Chains_improve e 4 [Value.ref p0, Value.int p1, Value.int (0 : Int32), Value.int (0 : Int32), zD] [] h Q) : zW (d + 1) m_Chains_improve e 0 [Value.ref p0, Value.int p1, zD, zD, zD] [] h Q := zWg_run (C := zc_Chains_improve) (B := (0, 0)) rfl rfl [4] 4 0 _ _ _ K
set_option maxRecDepth 100000 in
theorem b_Chains_improve_4 {d : Nat} {e : Nat × Nat} {h : zH} {Q : zQ} {p0 : Nat} {p1 : Int32} {p2 : Int32} {p3 : Int32} (K : ∃ F1, h.2 p0 = zO 1 F1 ∧ ∃ x2, F1 0 = Value.int x2 ∧ ((if x2 ≤ p3 then ((p2 = 0 ∨ p2 = 1) ∧ Q (some (Value.int p2)) h) else (∃ F24, h.2 p0 = zO 1 F24) ∧ zW d m_Chains_weightBy h.1 0 [Value.ref p0, Value.int p1, Value.int p3, zD] [] h (fun r3 h4 => ∃ x5, r3 = some (Value.int x5) ∧ ((if x5 = (-4 : Int32) then zW (d + 1) m_Chains_improve e 4 [Value.ref p0, Value.int p1, Value.int p2, Value.int (p3 + 1), zD] [] h4 Q else ∃ F6, h4.2 p0 = zO 1 F6 ∧ ∃ x7, F6 3 = Value.ref x7 ∧ (∃ n8 f9, h4.2 x7 = zI 0 n8 f9 ∧ zIn p1 n8 ∧ ((if (f9 p1.toNatClampNeg) = (-4 : Int32) then ∃ F10, h4.2 p0 = zO 1 F10 ∧ ∃ x11, F10 3 = Value.ref x11 ∧ ((∃ n12 f13, h4.2 x11 = zI 0 n12 f13 ∧ zIn p1 n12 ∧ ∀ h14, h14 = zP h4 x11 (zI 0 n12 (zU f13 p1.toNatClampNeg x5)) → (zW (d + 1) m_Chains_improve e 4 [Value.ref p0, Value.int p1, Value.int (1 : Int32), Value.int (p3 + 1), zD] [] h14 Q))) else ∃ F15, h4.2 p0 = zO 1 F15 ∧ ∃ x16, F15 3 = Value.ref x16 ∧ (∃ n17 f18, h4.2 x16 = zI 0 n17 f18 ∧ zIn p1 n17 ∧ ((if (f18 p1.toNatClampNeg) ≤ x5 then zW (d + 1) m_Chains_improve e 4 [Value.ref p0, Value.int p1, Value.int p2, Value.int (p3 + 1), zD] [] h4 Q else ∃ F19, h4.2 p0 = zO 1 F19 ∧ ∃ x20, F19 3 = Value.ref x20 ∧ ((∃ n21 f22, h4.2 x20 = zI 0 n21 f22 ∧ zIn p1 n21 ∧ ∀ h23, h23 = zP h4 x20 (zI 0 n21 (zU f22 p1.toNatClampNeg x5)) → (zW (d + 1) m_Chains_improve e 4 [Value.ref p0, Value.int p1, Value.int (1 : Int32), Value.int (p3 + 1), zD] [] h23 Q))))))))))))))) : zW (d + 1) m_Chains_improve e 4 [Value.ref p0, Value.int p1, Value.int p2, Value.int p3, zD] [] h Q := zWg_run (C := zc_Chains_improve) (B := (0, 0)) rfl rfl [4] 33 4 _ _ _ K
set_option maxRecDepth 100000 in
theorem b_Chains_weightBy_0 {d : Nat} {e : Nat × Nat} {h : zH} {Q : zQ} {p0 : Nat} {p1 : Int32} {p2 : Int32} (K : ∃ F1, h.2 p0 = zO 1 F1 ∧ ∃ x2, F1 2 = Value.ref x2 ∧ (∃ n3 f4, h.2 x2 = zI 0 n3 f4 ∧ zIn ((p1 * (7 : Int32)) + p2) n3 ∧ ((if (f4 ((p1 * (7 : Int32)) + p2).toNatClampNeg) = (-4 : Int32) then Q (some (Value.int (-4 : Int32))) h else ∃ F5, h.2 p0 = zO 1 F5 ∧ ∃ x6, F5 3 = Value.ref x6 ∧ (∃ n7 f8, h.2 x6 = zI 0 n7 f8 ∧ zIn p2 n7 ∧ ((if (f8 p2.toNatClampNeg) = (-4 : Int32) then Q (some (Value.int (-4 : Int32))) h else ∃ F9, h.2 p0 = zO 1 F9 ∧ ∃ x10, F9 3 = Value.ref x10 ∧ (∃ n11 f12, h.2 x10 = zI 0 n11 f12 ∧ zIn p2 n11 ∧ (Q (some (Value.int ((f4 ((p1 * (7 : Int32)) + p2).toNatClampNeg) + (f12 p2.toNatClampNeg)))) h))))))))) : zW (d + 1) m_Chains_weightBy e 0 [Value.ref p0, Value.int p1, Value.int p2, zD] [] h Q := zWg_run (C := zc_Chains_weightBy) (B := (0, 0)) rfl rfl [] 25 0 _ _ _ K
set_option maxRecDepth 100000 in
theorem b_Chains_reachesAim_0 {d : Nat} {e : Nat × Nat} {h : zH} {Q : zQ} {p0 : Nat} {p1 : Int32} (K : ∃ F1, h.2 p0 = zO 1 F1 ∧ ∃ x2, F1 3 = Value.ref x2 ∧ (∃ n3 f4, h.2 x2 = zI 0 n3 f4 ∧ zIn p1 n3 ∧ ((if (f4 p1.toNatClampNeg) = (-4 : Int32) then (((0 : Int32) = 0 ∨ (0 : Int32) = 1) ∧ Q (some (Value.int (0 : Int32))) h) else (((1 : Int32) = 0 ∨ (1 : Int32) = 1) ∧ Q (some (Value.int (1 : Int32))) h))))) : zW (d + 1) m_Chains_reachesAim e 0 [Value.ref p0, Value.int p1] [] h Q := zWg_run (C := zc_Chains_reachesAim) (B := (0, 0)) rfl rfl [] 9 0 _ _ _ K
set_option maxRecDepth 100000 in
theorem b_Chains_costToAim_0 {d : Nat} {e : Nat × Nat} {h : zH} {Q : zQ} {p0 : Nat} {p1 : Int32} (K : ∃ F1, h.2 p0 = zO 1 F1 ∧ ∃ x2, F1 3 = Value.ref x2 ∧ (∃ n3 f4, h.2 x2 = zI 0 n3 f4 ∧ zIn p1 n3 ∧ (Q (some (Value.int ((f4 p1.toNatClampNeg) >>> ((3 : Int32) &&& 31)))) h))) : zW (d + 1) m_Chains_costToAim e 0 [Value.ref p0, Value.int p1] [] h Q := zWg_run (C := zc_Chains_costToAim) (B := (0, 0)) rfl rfl [] 7 0 _ _ _ K
set_option maxRecDepth 100000 in
theorem b_Chains_hopsToAim_0 {d : Nat} {e : Nat × Nat} {h : zH} {Q : zQ} {p0 : Nat} {p1 : Int32} (K : ∃ F1, h.2 p0 = zO 1 F1 ∧ ∃ x2, F1 3 = Value.ref x2 ∧ (∃ n3 f4, h.2 x2 = zI 0 n3 f4 ∧ zIn p1 n3 ∧ (Q (some (Value.int ((f4 p1.toNatClampNeg) &&& (7 : Int32)))) h))) : zW (d + 1) m_Chains_hopsToAim e 0 [Value.ref p0, Value.int p1] [] h Q := zWg_run (C := zc_Chains_hopsToAim) (B := (0, 0)) rfl rfl [] 7 0 _ _ _ K
set_option maxRecDepth 100000 in
theorem b_Chains_nextToAim_0 {d : Nat} {e : Nat × Nat} {h : zH} {Q : zQ} {p0 : Nat} {p1 : Int32} (K : zW (d + 1) m_Chains_nextToAim e 2 [Value.ref p0, Value.int p1, Value.int (0 : Int32)] [] h Q) : zW (d + 1) m_Chains_nextToAim e 0 [Value.ref p0, Value.int p1, zD] [] h Q := zWg_run (C := zc_Chains_nextToAim) (B := (0, 0)) rfl rfl [2] 2 0 _ _ _ K
set_option maxRecDepth 100000 in
theorem b_Chains_nextToAim_2 {d : Nat} {e : Nat × Nat} {h : zH} {Q : zQ} {p0 : Nat} {p1 : Int32} {p2 : Int32} (K : ∃ F1, h.2 p0 = zO 1 F1 ∧ ∃ x2, F1 0 = Value.int x2 ∧ ((if x2 ≤ p2 then ∃ F3, h.2 p0 = zO 1 F3 ∧ ∃ x4, F3 1 = Value.int x4 ∧ (Q (some (Value.int x4)) h) else (∃ F12, h.2 p0 = zO 1 F12) ∧ zW d m_Chains_weightBy h.1 0 [Value.ref p0, Value.int p1, Value.int p2, zD] [] h (fun r5 h6 => ∃ x7, r5 = some (Value.int x7) ∧ (∃ F8, h6.2 p0 = zO 1 F8 ∧ ∃ x9, F8 3 = Value.ref x9 ∧ (∃ n10 f11, h6.2 x9 = zI 0 n10 f11 ∧ zIn p1 n10 ∧ ((if x7 = (f11 p1.toNatClampNeg) then Q (some (Value.int p2)) h6 else zW (d + 1) m_Chains_nextToAim e 2 [Value.ref p0, Value.int p1, Value.int (p2 + 1)] [] h6 Q)))))))) : zW (d + 1) m_Chains_nextToAim e 2 [Value.ref p0, Value.int p1, Value.int p2] [] h Q := zWg_run (C := zc_Chains_nextToAim) (B := (0, 0)) rfl rfl [2] 15 2 _ _ _ K
set_option maxRecDepth 100000 in
theorem b_Text_init_0 {d : Nat} {e : Nat × Nat} {h : zH} {Q : zQ} {p0 : Nat} (K : (h.1.1 + 1 ≤ e.1 + 4 ∧ h.1.2 + 2 ≤ e.2 + 418) ∧ ∀ h1, h1 = zNew h 2 (zO 5 (zDf [0, 2])) → ((h1.1.1 + 1 ≤ e.1 + 4 ∧ h1.1.2 + 300 ≤ e.2 + 418) ∧ zW d m_Tape_init h1.1 0 [Value.ref (8 + h.1.1)] [] h1 (fun r2 h3 => r2 = none ∧ ((∃ F4, h3.2 p0 = zO 6 F4 ∧ ∀ h5, h5 = zP h3 p0 (zO 6 (zU F4 0 (Value.ref (8 + h.1.1)))) → ((h5.1.1 + 1 ≤ e.1 + 4 ∧ h5.1.2 + 4 ≤ e.2 + 418) ∧ ∀ h6, h6 = zNew h5 4 (zO 0 (zDf [0, 0, 0, 2])) → ((h6.1.1 + 1 ≤ e.1 + 4 ∧ h6.1.2 + 112 ≤ e.2 + 418) ∧ zW d m_Book_init h6.1 0 [Value.ref (8 + h5.1.1)] [] h6 (fun r7 h8 => r7 = none ∧ ((∃ F9, h8.2 p0 = zO 6 F9 ∧ ∀ h10, h10 = zP h8 p0 (zO 6 (zU F9 1 (Value.ref (8 + h5.1.1)))) → ((h10.1 = (e.1 + 4, e.2 + 418) ∧ Q none h10)))))))))))) : zW (d + 1) m_Text_init e 0 [Value.ref p0] [] h Q := zWg_run (C := zc_Text_init) (B := (4, 418)) rfl rfl [] 13 0 _ _ _ K
set_option maxRecDepth 100000 in
theorem b_Text_readAll_0 {d : Nat} {e : Nat × Nat} {h : zH} {Q : zQ} {p0 : Nat} {p1 : Nat} (K : (∃ F7, h.2 p0 = zO 6 F7) ∧ zW d m_Text_startOver h.1 0 [Value.ref p0, Value.ref p1] [] h (fun r1 h2 => r1 = none ∧ ((∃ F6, h2.2 p0 = zO 6 F6) ∧ zW d m_Text_takeHead h2.1 0 [Value.ref p0] [] h2 (fun r3 h4 => ∃ x5, r3 = some (Value.int x5) ∧ (zW (d + 1) m_Text_readAll e 12 [Value.ref p0, zD, Value.int x5, Value.int (0 : Int32)] [] h4 Q))))) : zW (d + 1) m_Text_readAll e 0 [Value.ref p0, Value.ref p1, zD, zD] [] h Q := zWg_run (C := zc_Text_readAll) (B := (0, 0)) rfl rfl [12] 8 0 _ _ _ K
set_option maxRecDepth 100000 in
theorem b_Text_readAll_12 {d : Nat} {e : Nat × Nat} {h : zH} {Q : zQ} {p0 : Nat} {p2 : Int32} {p3 : Int32} (K : (if p2 = 0 then ∃ F1, h.2 p0 = zO 6 F1 ∧ ∃ x2, F1 2 = Value.int x2 ∧ ((if x2 = 0 then (((1 : Int32) = 0 ∨ (1 : Int32) = 1) ∧ Q (some (Value.int (1 : Int32))) h) else (((0 : Int32) = 0 ∨ (0 : Int32) = 1) ∧ Q (some (Value.int (0 : Int32))) h))) else (if (300 : Int32) < p3 then ∃ F3, h.2 p0 = zO 6 F3 ∧ ∃ x4, F3 2 = Value.int x4 ∧ ((if x4 = 0 then (((1 : Int32) = 0 ∨ (1 : Int32) = 1) ∧ Q (some (Value.int (1 : Int32))) h) else (((0 : Int32) = 0 ∨ (0 : Int32) = 1) ∧ Q (some (Value.int (0 : Int32))) h))) else (∃ F14, h.2 p0 = zO 6 F14) ∧ zW d m_Text_nextToken h.1 0 [Value.ref p0, zD] [] h (fun r5 h6 => ∃ x7, r5 = some (Value.int x7) ∧ ((if x7 = 0 then zW (d + 1) m_Text_readAll e 12 [Value.ref p0, zD, Value.int (0 : Int32), Value.int (p3 + 1)] [] h6 Q else ∃ F8, h6.2 p0 = zO 6 F8 ∧ ∃ x9, F8 6 = Value.int x9 ∧ ((if x9 = 0 then zW (d + 1) m_Text_readAll e 12 [Value.ref p0, zD, Value.int (0 : Int32), Value.int (p3 + 1)] [] h6 Q else (∃ F13, h6.2 p0 = zO 6 F13) ∧ zW d m_Text_takeLine h6.1 0 [Value.ref p0] [] h6 (fun r10 h11 => ∃ x12, r10 = some (Value.int x12) ∧ ((if x12 = 0 then zW (d + 1) m_Text_readAll e 12 [Value.ref p0, zD, Value.int (0 : Int32), Value.int (p3 + 1)] [] h11 Q else zW (d + 1) m_Text_readAll e 12 [Value.ref p0, zD, Value.int (1 : Int32), Value.int (p3 + 1)] [] h11 Q))))))))))) : zW (d + 1) m_Text_readAll e 12 [Value.ref p0, zD, Value.int p2, Value.int p3] [] h Q := zWg_run (C := zc_Text_readAll) (B := (0, 0)) rfl rfl [12] 19 12 _ _ _ K
set_option maxRecDepth 100000 in
theorem b_Text_startOver_0 {d : Nat} {e : Nat × Nat} {h : zH} {Q : zQ} {p0 : Nat} {p1 : Nat} (K : ∃ F1, h.2 p0 = zO 6 F1 ∧ ∃ x2, F1 1 = Value.ref x2 ∧ ((∃ F27, h.2 x2 = zO 0 F27) ∧ zW d m_Book_startWith h.1 0 [Value.ref x2, Value.int (1 : Int32)] [] h (fun r3 h4 => r3 = none ∧ (∃ F5, h4.2 p0 = zO 6 F5 ∧ ∃ x6, F5 1 = Value.ref x6 ∧ (∃ F7, h4.2 p1 = zO 0 F7 ∧ ∃ x8, F7 1 = Value.int x8 ∧ ((∃ F9, h4.2 x6 = zO 0 F9 ∧ ∀ h10, h10 = zP h4 x6 (zO 0 (zU F9 1 (Value.int x8))) → (∃ F11, h10.2 p0 = zO 6 F11 ∧ ∃ x12, F11 1 = Value.ref x12 ∧ (∃ F13, h10.2 p1 = zO 0 F13 ∧ ∃ x14, F13 2 = Value.int x14 ∧ ((∃ F15, h10.2 x12 = zO 0 F15 ∧ ∀ h16, h16 = zP h10 x12 (zO 0 (zU F15 2 (Value.int x14))) → ((((0 : Int32) = 0 ∨ (0 : Int32) = 1) ∧ (∃ F17, h16.2 p0 = zO 6 F17 ∧ ∀ h18, h18 = zP h16 p0 (zO 6 (zU F17 4 (Value.int (0 : Int32)))) → ((((0 : Int32) = 0 ∨ (0 : Int32) = 1) ∧ (∃ F19, h18.2 p0 = zO 6 F19 ∧ ∀ h20, h20 = zP h18 p0 (zO 6 (zU F19 5 (Value.int (0 : Int32)))) → ((∃ F21, h20.2 p0 = zO 6 F21 ∧ ∀ h22, h22 = zP h20 p0 (zO 6 (zU F21 2 (Value.int (0 : Int32)))) → ((∃ F23, h22.2 p0 = zO 6 F23 ∧ ∀ h24, h24 = zP h22 p0 (zO 6 (zU F23 3 (Value.int (0 : Int32)))) → ((∃ F25, h24.2 p0 = zO 6 F25 ∧ ∀ h26, h26 = zP h24 p0 (zO 6 (zU F25 8 (Value.int (0 : Int32)))) → (Q none h26)))))))))))))))))))))))) : zW (d + 1) m_Text_startOver e 0 [Value.ref p0, Value.ref p1] [] h Q := zWg_run (C := zc_Text_startOver) (B := (0, 0)) rfl rfl [] 30 0 _ _ _ K
set_option maxRecDepth 100000 in
theorem b_Text_takeHead_0 {d : Nat} {e : Nat × Nat} {h : zH} {Q : zQ} {p0 : Nat} (K : (∃ F26, h.2 p0 = zO 6 F26) ∧ zW d m_Text_nextToken h.1 0 [Value.ref p0, zD] [] h (fun r1 h2 => ∃ x3, r1 = some (Value.int x3) ∧ ((if x3 = 0 then (((0 : Int32) = 0 ∨ (0 : Int32) = 1) ∧ Q (some (Value.int (0 : Int32))) h2) else (∃ F25, h2.2 p0 = zO 6 F25) ∧ zW d m_Text_isName h2.1 0 [Value.ref p0, Value.ref 1, zD] [] h2 (fun r4 h5 => ∃ x6, r4 = some (Value.int x6) ∧ ((if x6 = 0 then (∃ F10, h5.2 p0 = zO 6 F10) ∧ zW d m_Text_refuse h5.1 0 [Value.ref p0, Value.int (2 : Int32)] [] h5 (fun r7 h8 => ∃ x9, r7 = some (Value.int x9) ∧ (((x9 = 0 ∨ x9 = 1) ∧ Q (some (Value.int x9)) h8))) else (∃ F24, h5.2 p0 = zO 6 F24) ∧ zW d m_Text_takeNumber h5.1 0 [Value.ref p0, Value.int (1 : Int32), Value.int (7 : Int32)] [] h5 (fun r11 h12 => ∃ x13, r11 = some (Value.int x13) ∧ ((if x13 = 0 then (((0 : Int32) = 0 ∨ (0 : Int32) = 1) ∧ Q (some (Value.int (0 : Int32))) h12) else ∃ F14, h12.2 p0 = zO 6 F14 ∧ ∃ x15, F14 1 = Value.ref x15 ∧ (∃ F16, h12.2 p0 = zO 6 F16 ∧ ∃ x17, F16 9 = Value.int x17 ∧ ((∃ F18, h12.2 x15 = zO 0 F18 ∧ ∀ h19, h19 = zP h12 x15 (zO 0 (zU F18 0 (Value.int x17))) → ((∃ F23, h19.2 p0 = zO 6 F23) ∧ zW d m_Text_takeSign h19.1 0 [Value.ref p0] [] h19 (fun r20 h21 => ∃ x22, r20 = some (Value.int x22) ∧ (((x22 = 0 ∨ x22 = 1) ∧ Q (some (Value.int x22)) h21))))))))))))))))) : zW (d + 1) m_Text_takeHead e 0 [Value.ref p0] [] h Q := zWg_run (C := zc_Text_takeHead) (B := (0, 0)) rfl rfl [] 20 0 _ _ _ K
set_option maxRecDepth 100000 in
theorem b_Text_takeLine_0 {d : Nat} {e : Nat × Nat} {h : zH} {Q : zQ} {p0 : Nat} (K : (∃ F28, h.2 p0 = zO 6 F28) ∧ zW d m_Text_isName h.1 0 [Value.ref p0, Value.ref 2, zD] [] h (fun r1 h2 => ∃ x3, r1 = some (Value.int x3) ∧ ((if x3 = 0 then (∃ F23, h2.2 p0 = zO 6 F23) ∧ zW d m_Text_isName h2.1 0 [Value.ref p0, Value.ref 3, zD] [] h2 (fun r4 h5 => ∃ x6, r4 = some (Value.int x6) ∧ ((if x6 = 0 then (∃ F18, h5.2 p0 = zO 6 F18) ∧ zW d m_Text_isName h5.1 0 [Value.ref p0, Value.ref 4, zD] [] h5 (fun r7 h8 => ∃ x9, r7 = some (Value.int x9) ∧ ((if x9 = 0 then (∃ F13, h8.2 p0 = zO 6 F13) ∧ zW d m_Text_refuse h8.1 0 [Value.ref p0, Value.int (2 : Int32)] [] h8 (fun r10 h11 => ∃ x12, r10 = some (Value.int x12) ∧ (((x12 = 0 ∨ x12 = 1) ∧ Q (some (Value.int x12)) h11))) else (∃ F17, h8.2 p0 = zO 6 F17) ∧ zW d m_Text_takeLeast h8.1 0 [Value.ref p0] [] h8 (fun r14 h15 => ∃ x16, r14 = some (Value.int x16) ∧ (((x16 = 0 ∨ x16 = 1) ∧ Q (some (Value.int x16)) h15)))))) else (∃ F22, h5.2 p0 = zO 6 F22) ∧ zW d m_Text_takeLimit h5.1 0 [Value.ref p0] [] h5 (fun r19 h20 => ∃ x21, r19 = some (Value.int x21) ∧ (((x21 = 0 ∨ x21 = 1) ∧ Q (some (Value.int x21)) h20)))))) else (∃ F27, h2.2 p0 = zO 6 F27) ∧ zW d m_Text_takeHear h2.1 0 [Value.ref p0, zD, zD] [] h2 (fun r24 h25 => ∃ x26, r24 = some (Value.int x26) ∧ (((x26 = 0 ∨ x26 = 1) ∧ Q (some (Value.int x26)) h25))))))) : zW (d + 1) m_Text_takeLine e 0 [Value.ref p0] [] h Q := zWg_run (C := zc_Text_takeLine) (B := (0, 0)) rfl rfl [] 16 0 _ _ _ K
set_option maxRecDepth 100000 in
theorem b_Text_takeHear_0 {d : Nat} {e : Nat × Nat} {h : zH} {Q : zQ} {p0 : Nat} (K : (∃ F6, h.2 p0 = zO 6 F6) ∧ zW d m_Text_takeNumber h.1 0 [Value.ref p0, Value.int (0 : Int32), Value.int (15 : Int32)] [] h (fun r1 h2 => ∃ x3, r1 = some (Value.int x3) ∧ ((if x3 = 0 then (((0 : Int32) = 0 ∨ (0 : Int32) = 1) ∧ Q (some (Value.int (0 : Int32))) h2) else ∃ F4, h2.2 p0 = zO 6 F4 ∧ ∃ x5, F4 9 = Value.int x5 ∧ (zW (d + 1) m_Text_takeHear e 17 [Value.ref p0, Value.int x5, zD] [] h2 Q))))) : zW (d + 1) m_Text_takeHear e 0 [Value.ref p0, zD, zD] [] h Q := zWg_run (C := zc_Text_takeHear) (B := (0, 0)) rfl rfl [17] 8 0 _ _ _ K
set_option maxRecDepth 100000 in
theorem b_Text_takeHear_17 {d : Nat} {e : Nat × Nat} {h : zH} {Q : zQ} {p0 : Nat} {p1 : Int32} (K : ∃ F1, h.2 p0 = zO 6 F1 ∧ ∃ x2, F1 1 = Value.ref x2 ∧ (∃ F3, h.2 x2 = zO 0 F3 ∧ ∃ x4, F3 0 = Value.int x4 ∧ ((∃ F35, h.2 p0 = zO 6 F35) ∧ zW d m_Text_takeNumber h.1 0 [Value.ref p0, Value.int (0 : Int32), Value.int (x4 - (1 : Int32))] [] h (fun r5 h6 => ∃ x7, r5 = some (Value.int x7) ∧ ((if x7 = 0 then (((0 : Int32) = 0 ∨ (0 : Int32) = 1) ∧ Q (some (Value.int (0 : Int32))) h6) else ∃ F8, h6.2 p0 = zO 6 F8 ∧ ∃ x9, F8 9 = Value.int x9 ∧ (∃ F10, h6.2 p0 = zO 6 F10 ∧ ∃ x11, F10 1 = Value.ref x11 ∧ ((∃ F34, h6.2 x11 = zO 0 F34) ∧ zW d m_Book_stampAt h6.1 0 [Value.ref x11, Value.int p1, Value.int x9] [] h6 (fun r12 h13 => ∃ x14, r12 = some (Value.int x14) ∧ ((if x14 = (-4 : Int32) then (∃ F29, h13.2 p0 = zO 6 F29) ∧ zW d m_Text_takeNumber h13.1 0 [Value.ref p0, Value.int (0 : Int32), Value.int (9999 : Int32)] [] h13 (fun r15 h16 => ∃ x17, r15 = some (Value.int x17) ∧ ((if x17 = 0 then (((0 : Int32) = 0 ∨ (0 : Int32) = 1) ∧ Q (some (Value.int (0 : Int32))) h16) else ∃ F18, h16.2 p0 = zO 6 F18 ∧ ∃ x19, F18 1 = Value.ref x19 ∧ (∃ F20, h16.2 p0 = zO 6 F20 ∧ ∃ x21, F20 9 = Value.int x21 ∧ ((∃ F28, h16.2 x19 = zO 0 F28) ∧ zW d m_Book_putStamp h16.1 0 [Value.ref x19, Value.int p1, Value.int x9, Value.int x21] [] h16 (fun r22 h23 => r22 = none ∧ ((∃ F27, h23.2 p0 = zO 6 F27) ∧ zW d m_Text_takeSign h23.1 0 [Value.ref p0] [] h23 (fun r24 h25 => ∃ x26, r24 = some (Value.int x26) ∧ (((x26 = 0 ∨ x26 = 1) ∧ Q (some (Value.int x26)) h25)))))))))) else (∃ F33, h13.2 p0 = zO 6 F33) ∧ zW d m_Text_refuse h13.1 0 [Value.ref p0, Value.int (4 : Int32)] [] h13 (fun r30 h31 => ∃ x32, r30 = some (Value.int x32) ∧ (((x32 = 0 ∨ x32 = 1) ∧ Q (some (Value.int x32)) h31)))))))))))))) : zW (d + 1) m_Text_takeHear e 17 [Value.ref p0, Value.int p1, zD] [] h Q := zWg_run (C := zc_Text_takeHear) (B := (0, 0)) rfl rfl [17] 34 17 _ _ _ K
set_option maxRecDepth 100000 in
theorem b_Text_takeLimit_0 {d : Nat} {e : Nat × Nat} {h : zH} {Q : zQ} {p0 : Nat} (K : ∃ F1, h.2 p0 = zO 6 F1 ∧ ∃ x2, F1 4 = Value.int x2 ∧ ((if x2 = 0 then (((1 : Int32) = 0 ∨ (1 : Int32) = 1) ∧ (∃ F3, h.2 p0 = zO 6 F3 ∧ ∀ h4, h4 = zP h p0 (zO 6 (zU F3 4 (Value.int (1 : Int32)))) → ((∃ F18, h4.2 p0 = zO 6 F18) ∧ zW d m_Text_takeNumber h4.1 0 [Value.ref p0, Value.int (0 : Int32), Value.int (99 : Int32)] [] h4 (fun r5 h6 => ∃ x7, r5 = some (Value.int x7) ∧ ((if x7 = 0 then (((0 : Int32) = 0 ∨ (0 : Int32) = 1) ∧ Q (some (Value.int (0 : Int32))) h6) else ∃ F8, h6.2 p0 = zO 6 F8 ∧ ∃ x9, F8 1 = Value.ref x9 ∧ (∃ F10, h6.2 p0 = zO 6 F10 ∧ ∃ x11, F10 9 = Value.int x11 ∧ ((∃ F12, h6.2 x9 = zO 0 F12 ∧ ∀ h13, h13 = zP h6 x9 (zO 0 (zU F12 1 (Value.int x11))) → ((∃ F17, h13.2 p0 = zO 6 F17) ∧ zW d m_Text_takeSign h13.1 0 [Value.ref p0] [] h13 (fun r14 h15 => ∃ x16, r14 = some (Value.int x16) ∧ (((x16 = 0 ∨ x16 = 1) ∧ Q (some (Value.int x16)) h15))))))))))))) else (∃ F22, h.2 p0 = zO 6 F22) ∧ zW d m_Text_refuse h.1 0 [Value.ref p0, Value.int (4 : Int32)] [] h (fun r19 h20 => ∃ x21, r19 = some (Value.int x21) ∧ (((x21 = 0 ∨ x21 = 1) ∧ Q (some (Value.int x21)) h20)))))) : zW (d + 1) m_Text_takeLimit e 0 [Value.ref p0] [] h Q := zWg_run (C := zc_Text_takeLimit) (B := (0, 0)) rfl rfl [] 19 0 _ _ _ K
set_option maxRecDepth 100000 in
theorem b_Text_takeLeast_0 {d : Nat} {e : Nat × Nat} {h : zH} {Q : zQ} {p0 : Nat} (K : ∃ F1, h.2 p0 = zO 6 F1 ∧ ∃ x2, F1 5 = Value.int x2 ∧ ((if x2 = 0 then (((1 : Int32) = 0 ∨ (1 : Int32) = 1) ∧ (∃ F3, h.2 p0 = zO 6 F3 ∧ ∀ h4, h4 = zP h p0 (zO 6 (zU F3 5 (Value.int (1 : Int32)))) → ((∃ F18, h4.2 p0 = zO 6 F18) ∧ zW d m_Text_takeNumber h4.1 0 [Value.ref p0, Value.int (2 : Int32), Value.int (6 : Int32)] [] h4 (fun r5 h6 => ∃ x7, r5 = some (Value.int x7) ∧ ((if x7 = 0 then (((0 : Int32) = 0 ∨ (0 : Int32) = 1) ∧ Q (some (Value.int (0 : Int32))) h6) else ∃ F8, h6.2 p0 = zO 6 F8 ∧ ∃ x9, F8 1 = Value.ref x9 ∧ (∃ F10, h6.2 p0 = zO 6 F10 ∧ ∃ x11, F10 9 = Value.int x11 ∧ ((∃ F12, h6.2 x9 = zO 0 F12 ∧ ∀ h13, h13 = zP h6 x9 (zO 0 (zU F12 2 (Value.int x11))) → ((∃ F17, h13.2 p0 = zO 6 F17) ∧ zW d m_Text_takeSign h13.1 0 [Value.ref p0] [] h13 (fun r14 h15 => ∃ x16, r14 = some (Value.int x16) ∧ (((x16 = 0 ∨ x16 = 1) ∧ Q (some (Value.int x16)) h15))))))))))))) else (∃ F22, h.2 p0 = zO 6 F22) ∧ zW d m_Text_refuse h.1 0 [Value.ref p0, Value.int (4 : Int32)] [] h (fun r19 h20 => ∃ x21, r19 = some (Value.int x21) ∧ (((x21 = 0 ∨ x21 = 1) ∧ Q (some (Value.int x21)) h20)))))) : zW (d + 1) m_Text_takeLeast e 0 [Value.ref p0] [] h Q := zWg_run (C := zc_Text_takeLeast) (B := (0, 0)) rfl rfl [] 19 0 _ _ _ K
set_option maxRecDepth 100000 in
theorem b_Text_takeNumber_0 {d : Nat} {e : Nat × Nat} {h : zH} {Q : zQ} {p0 : Nat} {p1 : Int32} {p2 : Int32} (K : (∃ F25, h.2 p0 = zO 6 F25) ∧ zW d m_Text_nextToken h.1 0 [Value.ref p0, zD] [] h (fun r1 h2 => ∃ x3, r1 = some (Value.int x3) ∧ ((if x3 = 0 then (((0 : Int32) = 0 ∨ (0 : Int32) = 1) ∧ Q (some (Value.int (0 : Int32))) h2) else ∃ F4, h2.2 p0 = zO 6 F4 ∧ ∃ x5, F4 6 = Value.int x5 ∧ ((if x5 = (2 : Int32) then (∃ F20, h2.2 p0 = zO 6 F20) ∧ zW d m_Text_evaluate h2.1 0 [Value.ref p0, zD] [] h2 (fun r6 h7 => r6 = none ∧ (∃ F8, h7.2 p0 = zO 6 F8 ∧ ∃ x9, F8 9 = Value.int x9 ∧ ((if x9 < p1 then (∃ F13, h7.2 p0 = zO 6 F13) ∧ zW d m_Text_refuse h7.1 0 [Value.ref p0, Value.int (3 : Int32)] [] h7 (fun r10 h11 => ∃ x12, r10 = some (Value.int x12) ∧ ((if x12 = 0 then (((0 : Int32) = 0 ∨ (0 : Int32) = 1) ∧ Q (some (Value.int (0 : Int32))) h11) else (((1 : Int32) = 0 ∨ (1 : Int32) = 1) ∧ Q (some (Value.int (1 : Int32))) h11)))) else ∃ F14, h7.2 p0 = zO 6 F14 ∧ ∃ x15, F14 9 = Value.int x15 ∧ ((if x15 ≤ p2 then (((1 : Int32) = 0 ∨ (1 : Int32) = 1) ∧ Q (some (Value.int (1 : Int32))) h7) else (∃ F19, h7.2 p0 = zO 6 F19) ∧ zW d m_Text_refuse h7.1 0 [Value.ref p0, Value.int (3 : Int32)] [] h7 (fun r16 h17 => ∃ x18, r16 = some (Value.int x18) ∧ ((if x18 = 0 then (((0 : Int32) = 0 ∨ (0 : Int32) = 1) ∧ Q (some (Value.int (0 : Int32))) h17) else (((1 : Int32) = 0 ∨ (1 : Int32) = 1) ∧ Q (some (Value.int (1 : Int32))) h17)))))))))) else (∃ F24, h2.2 p0 = zO 6 F24) ∧ zW d m_Text_refuse h2.1 0 [Value.ref p0, Value.int (2 : Int32)] [] h2 (fun r21 h22 => ∃ x23, r21 = some (Value.int x23) ∧ (((x23 = 0 ∨ x23 = 1) ∧ Q (some (Value.int x23)) h22))))))))) : zW (d + 1) m_Text_takeNumber e 0 [Value.ref p0, Value.int p1, Value.int p2] [] h Q := zWg_run (C := zc_Text_takeNumber) (B := (0, 0)) rfl rfl [] 24 0 _ _ _ K
set_option maxRecDepth 100000 in
theorem b_Text_takeSign_0 {d : Nat} {e : Nat × Nat} {h : zH} {Q : zQ} {p0 : Nat} (K : (∃ F10, h.2 p0 = zO 6 F10) ∧ zW d m_Text_nextToken h.1 0 [Value.ref p0, zD] [] h (fun r1 h2 => ∃ x3, r1 = some (Value.int x3) ∧ ((if x3 = 0 then (((0 : Int32) = 0 ∨ (0 : Int32) = 1) ∧ Q (some (Value.int (0 : Int32))) h2) else ∃ F4, h2.2 p0 = zO 6 F4 ∧ ∃ x5, F4 6 = Value.int x5 ∧ ((if x5 = (3 : Int32) then (((1 : Int32) = 0 ∨ (1 : Int32) = 1) ∧ Q (some (Value.int (1 : Int32))) h2) else (∃ F9, h2.2 p0 = zO 6 F9) ∧ zW d m_Text_refuse h2.1 0 [Value.ref p0, Value.int (2 : Int32)] [] h2 (fun r6 h7 => ∃ x8, r6 = some (Value.int x8) ∧ ((if x8 = 0 then (((0 : Int32) = 0 ∨ (0 : Int32) = 1) ∧ Q (some (Value.int (0 : Int32))) h7) else (((1 : Int32) = 0 ∨ (1 : Int32) = 1) ∧ Q (some (Value.int (1 : Int32))) h7)))))))))) : zW (d + 1) m_Text_takeSign e 0 [Value.ref p0] [] h Q := zWg_run (C := zc_Text_takeSign) (B := (0, 0)) rfl rfl [] 14 0 _ _ _ K
set_option maxRecDepth 100000 in
theorem b_Text_refuse_0 {d : Nat} {e : Nat × Nat} {h : zH} {Q : zQ} {p0 : Nat} {p1 : Int32} (K : (∃ F1, h.2 p0 = zO 6 F1 ∧ ∀ h2, h2 = zP h p0 (zO 6 (zU F1 2 (Value.int p1))) → (∃ F3, h2.2 p0 = zO 6 F3 ∧ ∃ x4, F3 7 = Value.int x4 ∧ ((∃ F5, h2.2 p0 = zO 6 F5 ∧ ∀ h6, h6 = zP h2 p0 (zO 6 (zU F5 3 (Value.int x4))) → ((((0 : Int32) = 0 ∨ (0 : Int32) = 1) ∧ Q (some (Value.int (0 : Int32))) h6))))))) : zW (d + 1) m_Text_refuse e 0 [Value.ref p0, Value.int p1] [] h Q := zWg_run (C := zc_Text_refuse) (B := (0, 0)) rfl rfl [] 9 0 _ _ _ K
set_option maxRecDepth 100000 in
theorem b_Text_nextToken_0 {d : Nat} {e : Nat × Nat} {h : zH} {Q : zQ} {p0 : Nat} (K : ∃ F1, h.2 p0 = zO 6 F1 ∧ ∃ x2, F1 0 = Value.ref x2 ∧ (∃ F3, h.2 p0 = zO 6 F3 ∧ ∃ x4, F3 8 = Value.int x4 ∧ ((∃ F10, h.2 x2 = zO 5 F10) ∧ zW d m_Tape_behindRun h.1 0 [Value.ref x2, Value.int x4, Value.int (32 : Int32), Value.int (32 : Int32), zD] [] h (fun r5 h6 => ∃ x7, r5 = some (Value.int x7) ∧ ((∃ F8, h6.2 p0 = zO 6 F8 ∧ ∀ h9, h9 = zP h6 p0 (zO 6 (zU F8 7 (Value.int x7))) → (zW (d + 1) m_Text_nextToken e 19 [Value.ref p0, zD] [] h9 Q))))))) : zW (d + 1) m_Text_nextToken e 0 [Value.ref p0, zD] [] h Q := zWg_run (C := zc_Text_nextToken) (B := (0, 0)) rfl rfl [19, 98, 161] 9 0 _ _ _ K
set_option maxRecDepth 100000 in
theorem b_Text_nextToken_19 {d : Nat} {e : Nat × Nat} {h : zH} {Q : zQ} {p0 : Nat} (K : ∃ F1, h.2 p0 = zO 6 F1 ∧ ∃ x2, F1 7 = Value.int x2 ∧ ((∃ F3, h.2 p0 = zO 6 F3 ∧ ∀ h4, h4 = zP h p0 (zO 6 (zU F3 8 (Value.int x2))) → (∃ F5, h4.2 p0 = zO 6 F5 ∧ ∃ x6, F5 7 = Value.int x6 ∧ (∃ F7, h4.2 p0 = zO 6 F7 ∧ ∃ x8, F7 0 = Value.ref x8 ∧ (∃ F9, h4.2 x8 = zO 5 F9 ∧ ∃ x10, F9 0 = Value.int x10 ∧ ((if x6 = x10 then (∃ F11, h4.2 p0 = zO 6 F11 ∧ ∀ h12, h12 = zP h4 p0 (zO 6 (zU F11 6 (Value.int (0 : Int32)))) → ((((1 : Int32) = 0 ∨ (1 : Int32) = 1) ∧ Q (some (Value.int (1 : Int32))) h12))) else ∃ F13, h4.2 p0 = zO 6 F13 ∧ ∃ x14, F13 0 = Value.ref x14 ∧ (∃ F15, h4.2 p0 = zO 6 F15 ∧ ∃ x16, F15 7 = Value.int x16 ∧ ((∃ F32, h4.2 x14 = zO 5 F32) ∧ zW d m_Tape_byteAt h4.1 0 [Value.ref x14, Value.int x16] [] h4 (fun r17 h18 => ∃ x19, r17 = some (Value.int x19) ∧ ((if x19 < (97 : Int32) then zW (d + 1) m_Text_nextToken e 98 [Value.ref p0, Value.int x19] [] h18 Q else (if (122 : Int32) < x19 then zW (d + 1) m_Text_nextToken e 98 [Value.ref p0, Value.int x19] [] h18 Q else (∃ F20, h18.2 p0 = zO 6 F20 ∧ ∀ h21, h21 = zP h18 p0 (zO 6 (zU F20 6 (Value.int (1 : Int32)))) → (∃ F22, h21.2 p0 = zO 6 F22 ∧ ∃ x23, F22 0 = Value.ref x23 ∧ (∃ F24, h21.2 p0 = zO 6 F24 ∧ ∃ x25, F24 7 = Value.int x25 ∧ ((∃ F31, h21.2 x23 = zO 5 F31) ∧ zW d m_Tape_behindRun h21.1 0 [Value.ref x23, Value.int x25, Value.int (97 : Int32), Value.int (122 : Int32), zD] [] h21 (fun r26 h27 => ∃ x28, r26 = some (Value.int x28) ∧ ((∃ F29, h27.2 p0 = zO 6 F29 ∧ ∀ h30, h30 = zP h27 p0 (zO 6 (zU F29 8 (Value.int x28))) → ((((1 : Int32) = 0 ∨ (1 : Int32) = 1) ∧ Q (some (Value.int (1 : Int32))) h30))))))))))))))))))))))) : zW (d + 1) m_Text_nextToken e 19 [Value.ref p0, zD] [] h Q := zWg_run (C := zc_Text_nextToken) (B := (0, 0)) rfl rfl [19, 98, 161] 36 19 _ _ _ K
set_option maxRecDepth 100000 in
theorem b_Text_nextToken_98 {d : Nat} {e : Nat × Nat} {h : zH} {Q : zQ} {p0 : Nat} {p1 : Int32} (K : (if p1 < (48 : Int32) then zW (d + 1) m_Text_nextToken e 161 [Value.ref p0, Value.int p1] [] h Q else (if (57 : Int32) < p1 then zW (d + 1) m_Text_nextToken e 161 [Value.ref p0, Value.int p1] [] h Q else (∃ F1, h.2 p0 = zO 6 F1 ∧ ∀ h2, h2 = zP h p0 (zO 6 (zU F1 6 (Value.int (2 : Int32)))) → (∃ F3, h2.2 p0 = zO 6 F3 ∧ ∃ x4, F3 0 = Value.ref x4 ∧ (∃ F5, h2.2 p0 = zO 6 F5 ∧ ∃ x6, F5 7 = Value.int x6 ∧ ((∃ F20, h2.2 x4 = zO 5 F20) ∧ zW d m_Tape_behindRun h2.1 0 [Value.ref x4, Value.int x6, Value.int (48 : Int32), Value.int (57 : Int32), zD] [] h2 (fun r7 h8 => ∃ x9, r7 = some (Value.int x9) ∧ ((∃ F10, h8.2 p0 = zO 6 F10 ∧ ∀ h11, h11 = zP h8 p0 (zO 6 (zU F10 8 (Value.int x9))) → (∃ F12, h11.2 p0 = zO 6 F12 ∧ ∃ x13, F12 8 = Value.int x13 ∧ (∃ F14, h11.2 p0 = zO 6 F14 ∧ ∃ x15, F14 7 = Value.int x15 ∧ ((if (x13 - x15) ≤ (4 : Int32) then (((1 : Int32) = 0 ∨ (1 : Int32) = 1) ∧ Q (some (Value.int (1 : Int32))) h11) else (∃ F19, h11.2 p0 = zO 6 F19) ∧ zW d m_Text_refuse h11.1 0 [Value.ref p0, Value.int (1 : Int32)] [] h11 (fun r16 h17 => ∃ x18, r16 = some (Value.int x18) ∧ ((if x18 = 0 then (((0 : Int32) = 0 ∨ (0 : Int32) = 1) ∧ Q (some (Value.int (0 : Int32))) h17) else (((1 : Int32) = 0 ∨ (1 : Int32) = 1) ∧ Q (some (Value.int (1 : Int32))) h17)))))))))))))))))) : zW (d + 1) m_Text_nextToken e 98 [Value.ref p0, Value.int p1] [] h Q := zWg_run (C := zc_Text_nextToken) (B := (0, 0)) rfl rfl [19, 98, 161] 32 98 _ _ _ K
set_option maxRecDepth 100000 in
theorem b_Text_nextToken_161 {d : Nat} {e : Nat × Nat} {h : zH} {Q : zQ} {p0 : Nat} {p1 : Int32} (K : (∃ F1, h.2 p0 = zO 6 F1 ∧ ∀ h2, h2 = zP h p0 (zO 6 (zU F1 6 (Value.int (3 : Int32)))) → (∃ F3, h2.2 p0 = zO 6 F3 ∧ ∃ x4, F3 7 = Value.int x4 ∧ ((∃ F5, h2.2 p0 = zO 6 F5 ∧ ∀ h6, h6 = zP h2 p0 (zO 6 (zU F5 8 (Value.int (x4 + (1 : Int32))))) → ((if p1 = (59 : Int32) then (((1 : Int32) = 0 ∨ (1 : Int32) = 1) ∧ Q (some (Value.int (1 : Int32))) h6) else (∃ F10, h6.2 p0 = zO 6 F10) ∧ zW d m_Text_refuse h6.1 0 [Value.ref p0, Value.int (1 : Int32)] [] h6 (fun r7 h8 => ∃ x9, r7 = some (Value.int x9) ∧ ((if x9 = 0 then (((0 : Int32) = 0 ∨ (0 : Int32) = 1) ∧ Q (some (Value.int (0 : Int32))) h8) else (((1 : Int32) = 0 ∨ (1 : Int32) = 1) ∧ Q (some (Value.int (1 : Int32))) h8))))))))))) : zW (d + 1) m_Text_nextToken e 161 [Value.ref p0, Value.int p1] [] h Q := zWg_run (C := zc_Text_nextToken) (B := (0, 0)) rfl rfl [19, 98, 161] 19 161 _ _ _ K
set_option maxRecDepth 100000 in
theorem b_Text_evaluate_0 {d : Nat} {e : Nat × Nat} {h : zH} {Q : zQ} {p0 : Nat} (K : (∃ F1, h.2 p0 = zO 6 F1 ∧ ∀ h2, h2 = zP h p0 (zO 6 (zU F1 9 (Value.int (0 : Int32)))) → (∃ F3, h2.2 p0 = zO 6 F3 ∧ ∃ x4, F3 7 = Value.int x4 ∧ (zW (d + 1) m_Text_evaluate e 10 [Value.ref p0, Value.int x4] [] h2 Q)))) : zW (d + 1) m_Text_evaluate e 0 [Value.ref p0, zD] [] h Q := zWg_run (C := zc_Text_evaluate) (B := (0, 0)) rfl rfl [10] 6 0 _ _ _ K
set_option maxRecDepth 100000 in
theorem b_Text_evaluate_10 {d : Nat} {e : Nat × Nat} {h : zH} {Q : zQ} {p0 : Nat} {p1 : Int32} (K : ∃ F1, h.2 p0 = zO 6 F1 ∧ ∃ x2, F1 8 = Value.int x2 ∧ ((if x2 ≤ p1 then Q none h else ∃ F3, h.2 p0 = zO 6 F3 ∧ ∃ x4, F3 9 = Value.int x4 ∧ (∃ F5, h.2 p0 = zO 6 F5 ∧ ∃ x6, F5 0 = Value.ref x6 ∧ ((∃ F12, h.2 x6 = zO 5 F12) ∧ zW d m_Tape_byteAt h.1 0 [Value.ref x6, Value.int p1] [] h (fun r7 h8 => ∃ x9, r7 = some (Value.int x9) ∧ ((∃ F10, h8.2 p0 = zO 6 F10 ∧ ∀ h11, h11 = zP h8 p0 (zO 6 (zU F10 9 (Value.int ((x4 * (10 : Int32)) + (x9 - (48 : Int32)))))) → (zW (d + 1) m_Text_evaluate e 10 [Value.ref p0, Value.int (p1 + 1)] [] h11 Q))))))))) : zW (d + 1) m_Text_evaluate e 10 [Value.ref p0, Value.int p1] [] h Q := zWg_run (C := zc_Text_evaluate) (B := (0, 0)) rfl rfl [10] 19 10 _ _ _ K
set_option maxRecDepth 100000 in
theorem b_Text_isName_0 {d : Nat} {e : Nat × Nat} {h : zH} {Q : zQ} {p0 : Nat} {p1 : Nat} (K : ∃ F1, h.2 p0 = zO 6 F1 ∧ ∃ x2, F1 6 = Value.int x2 ∧ ((if x2 = (1 : Int32) then ∃ F3, h.2 p0 = zO 6 F3 ∧ ∃ x4, F3 8 = Value.int x4 ∧ (∃ F5, h.2 p0 = zO 6 F5 ∧ ∃ x6, F5 7 = Value.int x6 ∧ (¬ zTx p1 = [] ∧ ([Value.int (x4 - x6)] : List Value).length ≤ 4 ∧ ((if (x4 - x6) = (Int32.ofNat (zTx p1).length) then zW (d + 1) m_Text_isName e 28 [Value.ref p0, Value.ref p1, Value.int (0 : Int32)] [] h Q else (((0 : Int32) = 0 ∨ (0 : Int32) = 1) ∧ Q (some (Value.int (0 : Int32))) h))))) else (((0 : Int32) = 0 ∨ (0 : Int32) = 1) ∧ Q (some (Value.int (0 : Int32))) h)))) : zW (d + 1) m_Text_isName e 0 [Value.ref p0, Value.ref p1, zD] [] h Q := zWg_run (C := zc_Text_isName) (B := (0, 0)) rfl rfl [28] 14 0 _ _ _ K
set_option maxRecDepth 100000 in
theorem b_Text_isName_28 {d : Nat} {e : Nat × Nat} {h : zH} {Q : zQ} {p0 : Nat} {p1 : Nat} {p2 : Int32} (K : ¬ zTx p1 = [] ∧ ([Value.int p2] : List Value).length ≤ 4 ∧ ((if (Int32.ofNat (zTx p1).length) ≤ p2 then (((1 : Int32) = 0 ∨ (1 : Int32) = 1) ∧ Q (some (Value.int (1 : Int32))) h) else ∃ F1, h.2 p0 = zO 6 F1 ∧ ∃ x2, F1 0 = Value.ref x2 ∧ (∃ F3, h.2 p0 = zO 6 F3 ∧ ∃ x4, F3 7 = Value.int x4 ∧ ((∃ F8, h.2 x2 = zO 5 F8) ∧ zW d m_Tape_byteAt h.1 0 [Value.ref x2, Value.int (x4 + p2)] [] h (fun r5 h6 => ∃ x7, r5 = some (Value.int x7) ∧ (zIn p2 (zTx p1).length ∧ ([Value.int x7] : List Value).length ≤ 4 ∧ ((if x7 = (Int32.ofNat ((zTx p1).getD p2.toNatClampNeg 0)) then zW (d + 1) m_Text_isName e 28 [Value.ref p0, Value.ref p1, Value.int (p2 + 1)] [] h6 Q else (((0 : Int32) = 0 ∨ (0 : Int32) = 1) ∧ Q (some (Value.int (0 : Int32))) h6)))))))))) : zW (d + 1) m_Text_isName e 28 [Value.ref p0, Value.ref p1, Value.int p2] [] h Q := zWg_run (C := zc_Text_isName) (B := (0, 0)) rfl rfl [28] 17 28 _ _ _ K
end
section
set_option maxRecDepth 100000 in
theorem b_BL_init_0 {d : Nat} {e : Nat × Nat} {h : zH} {Q : zQ} {p0 : Nat} (K : (h.1.1 + 1 ≤ e.1 + 130 ∧ h.1.2 + 10 ≤ e.2 + 2548) ∧ ∀ h1, h1 = zNew h 10 (zO 6 (zDf [2, 2, 0, 0, 0, 0, 0, 0, 0, 0])) → ((h1.1.1 + 4 ≤ e.1 + 130 ∧ h1.1.2 + 418 ≤ e.2 + 2548) ∧ zW d m_Text_init h1.1 0 [Value.ref (8 + h.1.1)] [] h1 (fun r2 h3 => r2 = none ∧ ((∃ F4, h3.2 p0 = zO 9 F4 ∧ ∀ h5, h5 = zP h3 p0 (zO 9 (zU F4 0 (Value.ref (8 + h.1.1)))) → (∃ F6, h5.2 p0 = zO 9 F6 ∧ ∃ x7, F6 0 = Value.ref x7 ∧ (∃ F8, h5.2 x7 = zO 6 F8 ∧ ∃ x9, F8 0 = Value.ref x9 ∧ ((∃ F10, h5.2 p0 = zO 9 F10 ∧ ∀ h11, h11 = zP h5 p0 (zO 9 (zU F10 1 (Value.ref x9))) → ((h11.1.1 + 1 ≤ e.1 + 130 ∧ h11.1.2 + 4 ≤ e.2 + 2548) ∧ ∀ h12, h12 = zNew h11 4 (zO 8 (zDf [2, 2, 2, 0])) → ((h12.1.1 + 102 ≤ e.1 + 130 ∧ h12.1.2 + 1593 ≤ e.2 + 2548) ∧ zW d m_Web_init h12.1 0 [Value.ref (8 + h11.1.1), zD] [] h12 (fun r13 h14 => r13 = none ∧ ((∃ F15, h14.2 p0 = zO 9 F15 ∧ ∀ h16, h16 = zP h14 p0 (zO 9 (zU F15 2 (Value.ref (8 + h11.1.1)))) → (zW (d + 1) m_BL_init e 37 [Value.ref p0, zD] [] h16 Q))))))))))))))) : zW (d + 1) m_BL_init e 0 [Value.ref p0, zD] [] h Q := zWg_run (C := zc_BL_init) (B := (130, 2548)) rfl rfl [37, 106, 132] 17 0 _ _ _ K
set_option maxRecDepth 100000 in
theorem b_BL_init_37 {d : Nat} {e : Nat × Nat} {h : zH} {Q : zQ} {p0 : Nat} (K : ∃ F1, h.2 p0 = zO 9 F1 ∧ ∃ x2, F1 2 = Value.ref x2 ∧ (∃ F3, h.2 x2 = zO 8 F3 ∧ ∃ x4, F3 0 = Value.ref x4 ∧ ((∃ F5, h.2 p0 = zO 9 F5 ∧ ∀ h6, h6 = zP h p0 (zO 9 (zU F5 3 (Value.ref x4))) → ((h6.1.1 + 1 ≤ e.1 + 130 ∧ h6.1.2 + 4 ≤ e.2 + 2548) ∧ ∀ h7, h7 = zNew h6 4 (zO 1 (zDf [0, 0, 2, 2])) → ((h7.1.1 + 2 ≤ e.1 + 130 ∧ h7.1.2 + 56 ≤ e.2 + 2548) ∧ zW d m_Chains_init h7.1 0 [Value.ref (8 + h6.1.1)] [] h7 (fun r8 h9 => r8 = none ∧ ((∃ F10, h9.2 p0 = zO 9 F10 ∧ ∀ h11, h11 = zP h9 p0 (zO 9 (zU F10 4 (Value.ref (8 + h6.1.1)))) → ((h11.1.1 + 1 ≤ e.1 + 130 ∧ h11.1.2 + 3 ≤ e.2 + 2548) ∧ ∀ h12, h12 = zNew h11 3 (zO 2 (zDf [2, 2, 0])) → ((h12.1.1 + 2 ≤ e.1 + 130 ∧ h12.1.2 + 14 ≤ e.2 + 2548) ∧ zW d m_Drawer_init h12.1 0 [Value.ref (8 + h11.1.1)] [] h12 (fun r13 h14 => r13 = none ∧ ((∃ F15, h14.2 p0 = zO 9 F15 ∧ ∀ h16, h16 = zP h14 p0 (zO 9 (zU F15 5 (Value.ref (8 + h11.1.1)))) → ((h16.1.1 + 1 ≤ e.1 + 130 ∧ h16.1.2 + 2 ≤ e.2 + 2548) ∧ ∀ h17, h17 = zNew h16 2 (zO 7 (zDf [1, 0])) → (zW d m_Time_init h17.1 0 [Value.ref (8 + h16.1.1)] [] h17 (fun r18 h19 => r18 = none ∧ ((∃ F20, h19.2 p0 = zO 9 F20 ∧ ∀ h21, h21 = zP h19 p0 (zO 9 (zU F20 6 (Value.ref (8 + h16.1.1)))) → ((¬ (2 : Int32) < 0 ∧ (2 : Int32).toNatClampNeg ≤ 65536 ∧ h21.1.1 + 1 ≤ e.1 + 130 ∧ h21.1.2 + (2 : Int32).toNatClampNeg ≤ e.2 + 2548) ∧ ∀ h22, h22 = zNew h21 (2 : Int32).toNatClampNeg (zR 0 (2 : Int32).toNatClampNeg (fun _ => none)) → ((∃ F23, h22.2 p0 = zO 9 F23 ∧ ∀ h24, h24 = zP h22 p0 (zO 9 (zU F23 7 (Value.ref (8 + h21.1.1)))) → ((¬ (2 : Int32) < 0 ∧ (2 : Int32).toNatClampNeg ≤ 65536 ∧ h24.1.1 + 1 ≤ e.1 + 130 ∧ h24.1.2 + (2 : Int32).toNatClampNeg ≤ e.2 + 2548) ∧ ∀ h25, h25 = zNew h24 (2 : Int32).toNatClampNeg (zI 1 (2 : Int32).toNatClampNeg (fun _ => 0)) → ((∃ F26, h25.2 p0 = zO 9 F26 ∧ ∀ h27, h27 = zP h25 p0 (zO 9 (zU F26 8 (Value.ref (8 + h24.1.1)))) → ((¬ (4 : Int32) < 0 ∧ (4 : Int32).toNatClampNeg ≤ 65536 ∧ h27.1.1 + 1 ≤ e.1 + 130 ∧ h27.1.2 + (4 : Int32).toNatClampNeg ≤ e.2 + 2548) ∧ ∀ h28, h28 = zNew h27 (4 : Int32).toNatClampNeg (zR 4 (4 : Int32).toNatClampNeg (fun _ => none)) → ((∃ F29, h28.2 p0 = zO 9 F29 ∧ ∀ h30, h30 = zP h28 p0 (zO 9 (zU F29 9 (Value.ref (8 + h27.1.1)))) → (zW (d + 1) m_BL_init e 106 [Value.ref p0, Value.int (0 : Int32)] [] h30 Q))))))))))))))))))))))))))))) : zW (d + 1) m_BL_init e 37 [Value.ref p0, zD] [] h Q := zWg_run (C := zc_BL_init) (B := (130, 2548)) rfl rfl [37, 106, 132] 34 37 _ _ _ K
set_option maxRecDepth 100000 in
theorem b_BL_init_106 {d : Nat} {e : Nat × Nat} {h : zH} {Q : zQ} {p0 : Nat} {p1 : Int32} (K : (if (2 : Int32) ≤ p1 then zW (d + 1) m_BL_init e 132 [Value.ref p0, Value.int (0 : Int32)] [] h Q else ∃ F1, h.2 p0 = zO 9 F1 ∧ ∃ x2, F1 7 = Value.ref x2 ∧ ((h.1.1 + 1 ≤ e.1 + 130 ∧ h.1.2 + 4 ≤ e.2 + 2548) ∧ ∀ h3, h3 = zNew h 4 (zO 0 (zDf [0, 0, 0, 2])) → ((h3.1.1 + 1 ≤ e.1 + 130 ∧ h3.1.2 + 112 ≤ e.2 + 2548) ∧ zW d m_Book_init h3.1 0 [Value.ref (8 + h.1.1)] [] h3 (fun r4 h5 => r4 = none ∧ ((∃ F8, h5.2 (8 + h.1.1) = zO 0 F8) ∧ (∃ n6 f7, h5.2 x2 = zR 0 n6 f7 ∧ zIn p1 n6 ∧ ∀ h9, h9 = zP h5 x2 (zR 0 n6 (zU f7 p1.toNatClampNeg (some (8 + h.1.1)))) → (zW (d + 1) m_BL_init e 106 [Value.ref p0, Value.int (p1 + 1)] [] h9 Q)))))))) : zW (d + 1) m_BL_init e 106 [Value.ref p0, Value.int p1] [] h Q := zWg_run (C := zc_BL_init) (B := (130, 2548)) rfl rfl [37, 106, 132] 12 106 _ _ _ K
set_option maxRecDepth 100000 in
theorem b_BL_init_132 {d : Nat} {e : Nat × Nat} {h : zH} {Q : zQ} {p0 : Nat} {p1 : Int32} (K : (if (4 : Int32) ≤ p1 then (h.1 = (e.1 + 130, e.2 + 2548) ∧ Q none h) else ∃ F1, h.2 p0 = zO 9 F1 ∧ ∃ x2, F1 9 = Value.ref x2 ∧ ((h.1.1 + 1 ≤ e.1 + 130 ∧ h.1.2 + 3 ≤ e.2 + 2548) ∧ ∀ h3, h3 = zNew h 3 (zO 4 (zDf [0, 0, 2])) → ((h3.1.1 + 1 ≤ e.1 + 130 ∧ h3.1.2 + 48 ≤ e.2 + 2548) ∧ zW d m_Sheet_init h3.1 0 [Value.ref (8 + h.1.1)] [] h3 (fun r4 h5 => r4 = none ∧ ((∃ F8, h5.2 (8 + h.1.1) = zO 4 F8) ∧ (∃ n6 f7, h5.2 x2 = zR 4 n6 f7 ∧ zIn p1 n6 ∧ ∀ h9, h9 = zP h5 x2 (zR 4 n6 (zU f7 p1.toNatClampNeg (some (8 + h.1.1)))) → (zW (d + 1) m_BL_init e 132 [Value.ref p0, Value.int (p1 + 1)] [] h9 Q)))))))) : zW (d + 1) m_BL_init e 132 [Value.ref p0, Value.int p1] [] h Q := zWg_run (C := zc_BL_init) (B := (130, 2548)) rfl rfl [37, 106, 132] 12 132 _ _ _ K
set_option maxRecDepth 100000 in
theorem b_BL_feed_0 {d : Nat} {e : Nat × Nat} {h : zH} {Q : zQ} {p0 : Nat} {p1 : Int32} (K : (if p1 < 0 then Q (some (Value.int (-1 : Int32))) h else (if p1 ≤ (127 : Int32) then ∃ F1, h.2 p0 = zO 9 F1 ∧ ∃ x2, F1 1 = Value.ref x2 ∧ ((∃ F10, h.2 x2 = zO 5 F10) ∧ zW d m_Tape_append h.1 0 [Value.ref x2, Value.int p1] [] h (fun r3 h4 => ∃ x5, r3 = some (Value.int x5) ∧ ((if x5 = 0 then Q (some (Value.int (-3 : Int32))) h4 else ∃ F6, h4.2 p0 = zO 9 F6 ∧ ∃ x7, F6 1 = Value.ref x7 ∧ (∃ F8, h4.2 x7 = zO 5 F8 ∧ ∃ x9, F8 0 = Value.int x9 ∧ (Q (some (Value.int x9)) h4)))))) else Q (some (Value.int (-1 : Int32))) h))) : zW (d + 1) m_BL_feed e 0 [Value.ref p0, Value.int p1] [] h Q := zWg_run (C := zc_BL_feed) (B := (0, 0)) rfl rfl [] 15 0 _ _ _ K
set_option maxRecDepth 100000 in
theorem b_BL_end_0 {d : Nat} {e : Nat × Nat} {h : zH} {Q : zQ} {p0 : Nat} {p1 : Int32} (K : (if p1 < 0 then Q (some (Value.int (-1 : Int32))) h else ∃ F1, h.2 p0 = zO 9 F1 ∧ ∃ x2, F1 1 = Value.ref x2 ∧ (∃ F3, h.2 x2 = zO 5 F3 ∧ ∃ x4, F3 0 = Value.int x4 ∧ ((if p1 ≤ x4 then ∃ F5, h.2 p0 = zO 9 F5 ∧ ∃ x6, F5 1 = Value.ref x6 ∧ (∃ F7, h.2 x6 = zO 5 F7 ∧ ∃ x8, F7 0 = Value.int x8 ∧ (∃ F9, h.2 p0 = zO 9 F9 ∧ ∃ x10, F9 1 = Value.ref x10 ∧ ((∃ F11, h.2 x10 = zO 5 F11 ∧ ∀ h12, h12 = zP h x10 (zO 5 (zU F11 0 (Value.int p1))) → (Q (some (Value.int x8)) h12))))) else Q (some (Value.int (-1 : Int32))) h))))) : zW (d + 1) m_BL_end e 0 [Value.ref p0, Value.int p1, zD] [] h Q := zWg_run (C := zc_BL_end) (B := (0, 0)) rfl rfl [] 17 0 _ _ _ K
set_option maxRecDepth 100000 in
theorem b_BL_text_0 {d : Nat} {e : Nat × Nat} {h : zH} {Q : zQ} {p0 : Nat} (K : ∃ F1, h.2 p0 = zO 9 F1 ∧ ∃ x2, F1 0 = Value.ref x2 ∧ (∃ F3, h.2 p0 = zO 9 F3 ∧ ∃ x4, F3 3 = Value.ref x4 ∧ ((∃ F45, h.2 x2 = zO 6 F45) ∧ zW d m_Text_readAll h.1 0 [Value.ref x2, Value.ref x4, zD, zD] [] h (fun r5 h6 => ∃ x7, r5 = some (Value.int x7) ∧ (∃ F8, h6.2 p0 = zO 9 F8 ∧ ∃ x9, F8 1 = Value.ref x9 ∧ ((∃ F10, h6.2 x9 = zO 5 F10 ∧ ∀ h11, h11 = zP h6 x9 (zO 5 (zU F10 0 (Value.int (0 : Int32)))) → (∃ F12, h11.2 p0 = zO 9 F12 ∧ ∃ x13, F12 0 = Value.ref x13 ∧ (∃ F14, h11.2 x13 = zO 6 F14 ∧ ∃ x15, F14 2 = Value.int x15 ∧ ((∃ F16, h11.2 p0 = zO 9 F16 ∧ ∀ h17, h17 = zP h11 p0 (zO 9 (zU F16 10 (Value.int x15))) → ((if x7 = 0 then ∃ F18, h17.2 p0 = zO 9 F18 ∧ ∃ x19, F18 0 = Value.ref x19 ∧ (∃ F20, h17.2 x19 = zO 6 F20 ∧ ∃ x21, F20 3 = Value.int x21 ∧ (Q (some (Value.int ((-10 : Int32) - x21))) h17)) else ∃ F22, h17.2 p0 = zO 9 F22 ∧ ∃ x23, F22 3 = Value.ref x23 ∧ (∃ F24, h17.2 p0 = zO 9 F24 ∧ ∃ x25, F24 0 = Value.ref x25 ∧ (∃ F26, h17.2 x25 = zO 6 F26 ∧ ∃ x27, F26 1 = Value.ref x27 ∧ ((∃ F44, h17.2 x23 = zO 0 F44) ∧ zW d m_Book_copyFrom h17.1 0 [Value.ref x23, Value.ref x27] [] h17 (fun r28 h29 => r28 = none ∧ (∃ F30, h29.2 p0 = zO 9 F30 ∧ ∃ x31, F30 2 = Value.ref x31 ∧ ((∃ F43, h29.2 x31 = zO 8 F43) ∧ zW d m_Web_touchAll h29.1 0 [Value.ref x31] [] h29 (fun r32 h33 => r32 = none ∧ ((∃ F42, h33.2 p0 = zO 9 F42) ∧ zW d m_BL_dropImages h33.1 0 [Value.ref p0, zD] [] h33 (fun r34 h35 => r34 = none ∧ (∃ F36, h35.2 p0 = zO 9 F36 ∧ ∃ x37, F36 3 = Value.ref x37 ∧ ((∃ F41, h35.2 x37 = zO 0 F41) ∧ zW d m_Book_allStamps h35.1 0 [Value.ref x37, zD, zD] [] h35 (fun r38 h39 => ∃ x40, r38 = some (Value.int x40) ∧ (Q (some (Value.int x40)) h39)))))))))))))))))))))))))) : zW (d + 1) m_BL_text e 0 [Value.ref p0, zD] [] h Q := zWg_run (C := zc_BL_text) (B := (0, 0)) rfl rfl [] 32 0 _ _ _ K
set_option maxRecDepth 100000 in
theorem b_BL_dropImages_0 {d : Nat} {e : Nat × Nat} {h : zH} {Q : zQ} {p0 : Nat} (K : zW (d + 1) m_BL_dropImages e 2 [Value.ref p0, Value.int (0 : Int32)] [] h Q) : zW (d + 1) m_BL_dropImages e 0 [Value.ref p0, zD] [] h Q := zWg_run (C := zc_BL_dropImages) (B := (0, 0)) rfl rfl [2] 2 0 _ _ _ K
set_option maxRecDepth 100000 in
theorem b_BL_dropImages_2 {d : Nat} {e : Nat × Nat} {h : zH} {Q : zQ} {p0 : Nat} {p1 : Int32} (K : (if (2 : Int32) ≤ p1 then Q none h else ∃ F1, h.2 p0 = zO 9 F1 ∧ ∃ x2, F1 8 = Value.ref x2 ∧ (((0 : Int32) = 0 ∨ (0 : Int32) = 1) ∧ (∃ n3 f4, h.2 x2 = zI 1 n3 f4 ∧ zIn p1 n3 ∧ ∀ h5, h5 = zP h x2 (zI 1 n3 (zU f4 p1.toNatClampNeg (0 : Int32))) → (zW (d + 1) m_BL_dropImages e 2 [Value.ref p0, Value.int (p1 + 1)] [] h5 Q))))) : zW (d + 1) m_BL_dropImages e 2 [Value.ref p0, Value.int p1] [] h Q := zWg_run (C := zc_BL_dropImages) (B := (0, 0)) rfl rfl [2] 10 2 _ _ _ K
set_option maxRecDepth 100000 in
theorem b_BL_fault_0 {d : Nat} {e : Nat × Nat} {h : zH} {Q : zQ} {p0 : Nat} (K : ∃ F1, h.2 p0 = zO 9 F1 ∧ ∃ x2, F1 10 = Value.int x2 ∧ (Q (some (Value.int x2)) h)) : zW (d + 1) m_BL_fault e 0 [Value.ref p0] [] h Q := zWg_run (C := zc_BL_fault) (B := (0, 0)) rfl rfl [] 3 0 _ _ _ K
set_option maxRecDepth 100000 in
theorem b_BL_rule_0 {d : Nat} {e : Nat × Nat} {h : zH} {Q : zQ} {p0 : Nat} {p1 : Int32} (K : (if p1 = 0 then (∃ F1, h.2 p0 = zO 9 F1 ∧ ∃ x2, F1 3 = Value.ref x2 ∧ (∃ F3, h.2 x2 = zO 0 F3 ∧ ∃ x4, F3 0 = Value.int x4 ∧ (Q (some (Value.int x4)) h))) else if p1 = 1 then (∃ F5, h.2 p0 = zO 9 F5 ∧ ∃ x6, F5 3 = Value.ref x6 ∧ ((∃ F10, h.2 x6 = zO 0 F10) ∧ zW d m_Book_allStamps h.1 0 [Value.ref x6, zD, zD] [] h (fun r7 h8 => ∃ x9, r7 = some (Value.int x9) ∧ (Q (some (Value.int x9)) h8)))) else if p1 = 2 then (∃ F11, h.2 p0 = zO 9 F11 ∧ ∃ x12, F11 3 = Value.ref x12 ∧ (∃ F13, h.2 x12 = zO 0 F13 ∧ ∃ x14, F13 1 = Value.int x14 ∧ (Q (some (Value.int x14)) h))) else if p1 = 3 then (∃ F15, h.2 p0 = zO 9 F15 ∧ ∃ x16, F15 3 = Value.ref x16 ∧ (∃ F17, h.2 x16 = zO 0 F17 ∧ ∃ x18, F17 2 = Value.int x18 ∧ (Q (some (Value.int x18)) h))) else if p1 = 4 then (∃ F19, h.2 p0 = zO 9 F19 ∧ ∃ x20, F19 2 = Value.ref x20 ∧ ((∃ F24, h.2 x20 = zO 8 F24) ∧ zW d m_Web_linesOfKind h.1 0 [Value.ref x20, Value.int (2 : Int32), zD, zD, zD] [] h (fun r21 h22 => ∃ x23, r21 = some (Value.int x23) ∧ (Q (some (Value.int x23)) h22)))) else if p1 = 5 then (∃ F25, h.2 p0 = zO 9 F25 ∧ ∃ x26, F25 2 = Value.ref x26 ∧ ((∃ F30, h.2 x26 = zO 8 F30) ∧ zW d m_Web_linesOfKind h.1 0 [Value.ref x26, Value.int (1 : Int32), zD, zD, zD] [] h (fun r27 h28 => ∃ x29, r27 = some (Value.int x29) ∧ (Q (some (Value.int x29)) h28)))) else if p1 = 6 then ((∃ F38, h.2 p0 = zO 9 F38) ∧ zW d m_BL_freshChains h.1 0 [Value.ref p0] [] h (fun r31 h32 => ∃ x33, r31 = some (Value.ref x33) ∧ ((∃ F37, h32.2 x33 = zO 1 F37) ∧ zW d m_Chains_reachingPairs h32.1 0 [Value.ref x33, zD, zD, zD] [] h32 (fun r34 h35 => ∃ x36, r34 = some (Value.int x36) ∧ (Q (some (Value.int x36)) h35))))) else if p1 = 7 then (∃ F39, h.2 p0 = zO 9 F39 ∧ ∃ x40, F39 2 = Value.ref x40 ∧ ((∃ F44, h.2 x40 = zO 8 F44) ∧ zW d m_Web_allStrikes h.1 0 [Value.ref x40, zD, zD, zD] [] h (fun r41 h42 => ∃ x43, r41 = some (Value.int x43) ∧ (Q (some (Value.int x43)) h42)))) else if p1 = 8 then (∃ F45, h.2 p0 = zO 9 F45 ∧ ∃ x46, F45 3 = Value.ref x46 ∧ ((∃ F50, h.2 x46 = zO 0 F50) ∧ zW d m_Book_unheardBeacons h.1 0 [Value.ref x46, zD, zD] [] h (fun r47 h48 => ∃ x49, r47 = some (Value.int x49) ∧ (Q (some (Value.int x49)) h48)))) else (Q (some (Value.int (-1 : Int32))) h))) : zW (d + 1) m_BL_rule e 0 [Value.ref p0, Value.int p1] [] h Q := zWg_run (C := zc_BL_rule) (B := (0, 0)) rfl rfl [] 7 0 _ _ _ K
set_option maxRecDepth 100000 in
theorem b_BL_stamp_0 {d : Nat} {e : Nat × Nat} {h : zH} {Q : zQ} {p0 : Nat} {p1 : Int32} {p2 : Int32} (K : zW d m_BL_isBeacon h.1 0 [Value.int p1] [] h (fun r1 h2 => ∃ x3, r1 = some (Value.int x3) ∧ ((if x3 = 0 then Q (some (Value.int (-1 : Int32))) h2 else ∃ F4, h2.2 p0 = zO 9 F4 ∧ ∃ x5, F4 3 = Value.ref x5 ∧ ((∃ F15, h2.2 x5 = zO 0 F15) ∧ zW d m_Book_hasClock h2.1 0 [Value.ref x5, Value.int p2] [] h2 (fun r6 h7 => ∃ x8, r6 = some (Value.int x8) ∧ ((if x8 = 0 then Q (some (Value.int (-1 : Int32))) h7 else ∃ F9, h7.2 p0 = zO 9 F9 ∧ ∃ x10, F9 3 = Value.ref x10 ∧ ((∃ F14, h7.2 x10 = zO 0 F14) ∧ zW d m_Book_stampAt h7.1 0 [Value.ref x10, Value.int p1, Value.int p2] [] h7 (fun r11 h12 => ∃ x13, r11 = some (Value.int x13) ∧ (Q (some (Value.int x13)) h12))))))))))) : zW (d + 1) m_BL_stamp e 0 [Value.ref p0, Value.int p1, Value.int p2] [] h Q := zWg_run (C := zc_BL_stamp) (B := (0, 0)) rfl rfl [] 14 0 _ _ _ K
set_option maxRecDepth 100000 in
theorem b_BL_clock_0 {d : Nat} {e : Nat × Nat} {h : zH} {Q : zQ} {p0 : Nat} {p1 : Int32} {p2 : Int32} (K : ∃ F1, h.2 p0 = zO 9 F1 ∧ ∃ x2, F1 3 = Value.ref x2 ∧ ((∃ F32, h.2 x2 = zO 0 F32) ∧ zW d m_Book_hasClock h.1 0 [Value.ref x2, Value.int p1] [] h (fun r3 h4 => ∃ x5, r3 = some (Value.int x5) ∧ ((if x5 = 0 then Q (some (Value.int (-1 : Int32))) h4 else (if p2 = 0 then (∃ F6, h4.2 p0 = zO 9 F6 ∧ ∃ x7, F6 3 = Value.ref x7 ∧ ((∃ F11, h4.2 x7 = zO 0 F11) ∧ zW d m_Book_stampsOf h4.1 0 [Value.ref x7, Value.int p1, zD, zD] [] h4 (fun r8 h9 => ∃ x10, r8 = some (Value.int x10) ∧ (Q (some (Value.int x10)) h9)))) else if p2 = 1 then (∃ F12, h4.2 p0 = zO 9 F12 ∧ ∃ x13, F12 2 = Value.ref x13 ∧ ((∃ F17, h4.2 x13 = zO 8 F17) ∧ zW d m_Web_goodLinesFrom h4.1 0 [Value.ref x13, Value.int p1, zD, zD] [] h4 (fun r14 h15 => ∃ x16, r14 = some (Value.int x16) ∧ (Q (some (Value.int x16)) h15)))) else if p2 = 2 then (∃ F18, h4.2 p0 = zO 9 F18 ∧ ∃ x19, F18 2 = Value.ref x19 ∧ ((∃ F23, h4.2 x19 = zO 8 F23) ∧ zW d m_Web_goodLinesTo h4.1 0 [Value.ref x19, Value.int p1, zD, zD] [] h4 (fun r20 h21 => ∃ x22, r20 = some (Value.int x22) ∧ (Q (some (Value.int x22)) h21)))) else if p2 = 3 then ((∃ F31, h4.2 p0 = zO 9 F31) ∧ zW d m_BL_freshChains h4.1 0 [Value.ref p0] [] h4 (fun r24 h25 => ∃ x26, r24 = some (Value.ref x26) ∧ ((∃ F30, h25.2 x26 = zO 1 F30) ∧ zW d m_Chains_reachedFrom h25.1 0 [Value.ref x26, Value.int p1, zD, zD] [] h25 (fun r27 h28 => ∃ x29, r27 = some (Value.int x29) ∧ (Q (some (Value.int x29)) h28))))) else (Q (some (Value.int (-1 : Int32))) h4))))))) : zW (d + 1) m_BL_clock e 0 [Value.ref p0, Value.int p1, Value.int p2] [] h Q := zWg_run (C := zc_BL_clock) (B := (0, 0)) rfl rfl [] 12 0 _ _ _ K
set_option maxRecDepth 100000 in
theorem b_BL_line_0 {d : Nat} {e : Nat × Nat} {h : zH} {Q : zQ} {p0 : Nat} {p1 : Int32} {p2 : Int32} {p3 : Int32} (K : (∃ F28, h.2 p0 = zO 9 F28) ∧ zW d m_BL_isPair h.1 0 [Value.ref p0, Value.int p1, Value.int p2] [] h (fun r1 h2 => ∃ x3, r1 = some (Value.int x3) ∧ ((if x3 = 0 then Q (some (Value.int (-1 : Int32))) h2 else (if p3 < 0 then Q (some (Value.int (-1 : Int32))) h2 else (if p3 ≤ (4 : Int32) then ∃ F4, h2.2 p0 = zO 9 F4 ∧ ∃ x5, F4 2 = Value.ref x5 ∧ ((∃ F27, h2.2 x5 = zO 8 F27) ∧ zW d m_Web_lineOf h2.1 0 [Value.ref x5, Value.int p1, Value.int p2, zD] [] h2 (fun r6 h7 => ∃ x8, r6 = some (Value.ref x8) ∧ ((if p3 = 0 then (∃ F9, h7.2 x8 = zO 3 F9 ∧ ∃ x10, F9 1 = Value.int x10 ∧ (Q (some (Value.int x10)) h7)) else if p3 = 1 then (∃ F11, h7.2 x8 = zO 3 F11 ∧ ∃ x12, F11 1 = Value.int x12 ∧ ((if x12 = 0 then Q (some (Value.int (0 : Int32))) h7 else ∃ F13, h7.2 x8 = zO 3 F13 ∧ ∃ x14, F13 2 = Value.int x14 ∧ (Q (some (Value.int x14)) h7)))) else if p3 = 2 then (∃ F15, h7.2 x8 = zO 3 F15 ∧ ∃ x16, F15 10 = Value.int x16 ∧ (Q (some (Value.int x16)) h7)) else if p3 = 3 then (∃ F17, h7.2 x8 = zO 3 F17 ∧ ∃ x18, F17 1 = Value.int x18 ∧ ((if x18 = 0 then Q (some (Value.int (-4 : Int32))) h7 else ∃ F19, h7.2 x8 = zO 3 F19 ∧ ∃ x20, F19 8 = Value.int x20 ∧ (Q (some (Value.int x20)) h7)))) else (∃ F21, h7.2 x8 = zO 3 F21 ∧ ∃ x22, F21 1 = Value.int x22 ∧ ((if x22 = (2 : Int32) then (∃ F26, h7.2 x8 = zO 3 F26) ∧ zW d m_Line_costOfGood h7.1 0 [Value.ref x8] [] h7 (fun r23 h24 => ∃ x25, r23 = some (Value.int x25) ∧ (Q (some (Value.int x25)) h24)) else Q (some (Value.int (-4 : Int32))) h7))))))) else Q (some (Value.int (-1 : Int32))) h2)))))) : zW (d + 1) m_BL_line e 0 [Value.ref p0, Value.int p1, Value.int p2, Value.int p3, zD] [] h Q := zWg_run (C := zc_BL_line) (B := (0, 0)) rfl rfl [] 26 0 _ _ _ K
set_option maxRecDepth 100000 in
theorem b_BL_sum_0 {d : Nat} {e : Nat × Nat} {h : zH} {Q : zQ} {p0 : Nat} {p1 : Int32} {p2 : Int32} {p3 : Int32} (K : (∃ F24, h.2 p0 = zO 9 F24) ∧ zW d m_BL_isPair h.1 0 [Value.ref p0, Value.int p1, Value.int p2] [] h (fun r1 h2 => ∃ x3, r1 = some (Value.int x3) ∧ ((if x3 = 0 then Q (some (Value.long (-1 : Int64))) h2 else (if p3 < 0 then Q (some (Value.long (-1 : Int64))) h2 else (if p3 ≤ (5 : Int32) then ∃ F4, h2.2 p0 = zO 9 F4 ∧ ∃ x5, F4 2 = Value.ref x5 ∧ ((∃ F23, h2.2 x5 = zO 8 F23) ∧ zW d m_Web_lineOf h2.1 0 [Value.ref x5, Value.int p1, Value.int p2, zD] [] h2 (fun r6 h7 => ∃ x8, r6 = some (Value.ref x8) ∧ (∃ F9, h7.2 x8 = zO 3 F9 ∧ ∃ x10, F9 1 = Value.int x10 ∧ ((if x10 = 0 then Q (some (Value.long (-4 : Int64))) h7 else (if p3 = 0 then (∃ F11, h7.2 x8 = zO 3 F11 ∧ ∃ x12, F11 2 = Value.int x12 ∧ (Q (some (Value.long x12.toInt64)) h7)) else if p3 = 1 then (∃ F13, h7.2 x8 = zO 3 F13 ∧ ∃ x14, F13 3 = Value.long x14 ∧ (Q (some (Value.long x14)) h7)) else if p3 = 2 then (∃ F15, h7.2 x8 = zO 3 F15 ∧ ∃ x16, F15 4 = Value.long x16 ∧ (Q (some (Value.long x16)) h7)) else if p3 = 3 then (∃ F17, h7.2 x8 = zO 3 F17 ∧ ∃ x18, F17 5 = Value.long x18 ∧ (Q (some (Value.long x18)) h7)) else if p3 = 4 then (∃ F19, h7.2 x8 = zO 3 F19 ∧ ∃ x20, F19 6 = Value.long x20 ∧ (Q (some (Value.long x20)) h7)) else (∃ F21, h7.2 x8 = zO 3 F21 ∧ ∃ x22, F21 9 = Value.long x22 ∧ (Q (some (Value.long x22)) h7)))))))) else Q (some (Value.long (-1 : Int64))) h2)))))) : zW (d + 1) m_BL_sum e 0 [Value.ref p0, Value.int p1, Value.int p2, Value.int p3, zD] [] h Q := zWg_run (C := zc_BL_sum) (B := (0, 0)) rfl rfl [] 25 0 _ _ _ K
set_option maxRecDepth 100000 in
theorem b_BL_struck_0 {d : Nat} {e : Nat × Nat} {h : zH} {Q : zQ} {p0 : Nat} {p1 : Int32} {p2 : Int32} {p3 : Int32} (K : (∃ F16, h.2 p0 = zO 9 F16) ∧ zW d m_BL_isPair h.1 0 [Value.ref p0, Value.int p1, Value.int p2] [] h (fun r1 h2 => ∃ x3, r1 = some (Value.int x3) ∧ ((if x3 = 0 then Q (some (Value.int (-1 : Int32))) h2 else (if 0 ≤ p3 then ∃ F4, h2.2 p0 = zO 9 F4 ∧ ∃ x5, F4 2 = Value.ref x5 ∧ ((∃ F15, h2.2 x5 = zO 8 F15) ∧ zW d m_Web_lineOf h2.1 0 [Value.ref x5, Value.int p1, Value.int p2, zD] [] h2 (fun r6 h7 => ∃ x8, r6 = some (Value.ref x8) ∧ (∃ F9, h7.2 x8 = zO 3 F9 ∧ ∃ x10, F9 10 = Value.int x10 ∧ ((if x10 ≤ p3 then Q (some (Value.int (-4 : Int32))) h7 else ∃ F11, h7.2 x8 = zO 3 F11 ∧ ∃ x12, F11 11 = Value.ref x12 ∧ (∃ n13 f14, h7.2 x12 = zI 0 n13 f14 ∧ zIn p3 n13 ∧ (Q (some (Value.int (f14 p3.toNatClampNeg))) h7))))))) else Q (some (Value.int (-1 : Int32))) h2))))) : zW (d + 1) m_BL_struck e 0 [Value.ref p0, Value.int p1, Value.int p2, Value.int p3, zD] [] h Q := zWg_run (C := zc_BL_struck) (B := (0, 0)) rfl rfl [] 23 0 _ _ _ K
set_option maxRecDepth 100000 in
theorem b_BL_far_0 {d : Nat} {e : Nat × Nat} {h : zH} {Q : zQ} {p0 : Nat} {p1 : Int32} {p2 : Int32} {p3 : Int32} (K : (∃ F7, h.2 p0 = zO 9 F7) ∧ zW d m_BL_isPair h.1 0 [Value.ref p0, Value.int p1, Value.int p2] [] h (fun r1 h2 => ∃ x3, r1 = some (Value.int x3) ∧ ((if x3 = 0 then Q (some (Value.long (-1 : Int64))) h2 else zW d m_BL_isBeacon h2.1 0 [Value.int p3] [] h2 (fun r4 h5 => ∃ x6, r4 = some (Value.int x6) ∧ ((if x6 = 0 then Q (some (Value.long (-1 : Int64))) h5 else zW (d + 1) m_BL_far e 20 [Value.ref p0, Value.int p1, Value.int p2, Value.int p3, zD, zD, zD] [] h5 Q))))))) : zW (d + 1) m_BL_far e 0 [Value.ref p0, Value.int p1, Value.int p2, Value.int p3, zD, zD, zD] [] h Q := zWg_run (C := zc_BL_far) (B := (0, 0)) rfl rfl [20] 10 0 _ _ _ K
set_option maxRecDepth 100000 in
theorem b_BL_far_20 {d : Nat} {e : Nat × Nat} {h : zH} {Q : zQ} {p0 : Nat} {p1 : Int32} {p2 : Int32} {p3 : Int32} (K : ∃ F1, h.2 p0 = zO 9 F1 ∧ ∃ x2, F1 2 = Value.ref x2 ∧ ((∃ F28, h.2 x2 = zO 8 F28) ∧ zW d m_Web_lineOf h.1 0 [Value.ref x2, Value.int p1, Value.int p2, zD] [] h (fun r3 h4 => ∃ x5, r3 = some (Value.ref x5) ∧ (∃ F6, h4.2 p0 = zO 9 F6 ∧ ∃ x7, F6 3 = Value.ref x7 ∧ ((∃ F27, h4.2 x7 = zO 0 F27) ∧ zW d m_Book_stampAt h4.1 0 [Value.ref x7, Value.int p3, Value.int p1] [] h4 (fun r8 h9 => ∃ x10, r8 = some (Value.int x10) ∧ (∃ F11, h9.2 p0 = zO 9 F11 ∧ ∃ x12, F11 3 = Value.ref x12 ∧ ((∃ F26, h9.2 x12 = zO 0 F26) ∧ zW d m_Book_stampAt h9.1 0 [Value.ref x12, Value.int p3, Value.int p2] [] h9 (fun r13 h14 => ∃ x15, r13 = some (Value.int x15) ∧ (∃ F16, h14.2 x5 = zO 3 F16 ∧ ∃ x17, F16 1 = Value.int x17 ∧ ((if x17 = 0 then Q (some (Value.long (-4 : Int64))) h14 else (if x10 = (-4 : Int32) then Q (some (Value.long (-4 : Int64))) h14 else (if x15 = (-4 : Int32) then Q (some (Value.long (-4 : Int64))) h14 else (∃ F25, h14.2 x5 = zO 3 F25) ∧ zW d m_Line_farOf h14.1 0 [Value.ref x5, Value.long x10.toInt64, zD, Value.long x15.toInt64, zD, zD, zD] [] h14 (fun r18 h19 => ∃ x20, r18 = some (Value.long x20) ∧ ((∃ F24, h19.2 x5 = zO 3 F24) ∧ zW d m_Line_partsUp h19.1 0 [Value.ref x5, Value.long x20, zD] [] h19 (fun r21 h22 => ∃ x23, r21 = some (Value.long x23) ∧ (Q (some (Value.long x23)) h22)))))))))))))))))) : zW (d + 1) m_BL_far e 20 [Value.ref p0, Value.int p1, Value.int p2, Value.int p3, zD, zD, zD] [] h Q := zWg_run (C := zc_BL_far) (B := (0, 0)) rfl rfl [20] 36 20 _ _ _ K
set_option maxRecDepth 100000 in
theorem b_BL_cost_0 {d : Nat} {e : Nat × Nat} {h : zH} {Q : zQ} {p0 : Nat} {p1 : Int32} {p2 : Int32} (K : ∃ F1, h.2 p0 = zO 9 F1 ∧ ∃ x2, F1 3 = Value.ref x2 ∧ ((∃ F31, h.2 x2 = zO 0 F31) ∧ zW d m_Book_hasClock h.1 0 [Value.ref x2, Value.int p1] [] h (fun r3 h4 => ∃ x5, r3 = some (Value.int x5) ∧ ((if x5 = 0 then Q (some (Value.int (-1 : Int32))) h4 else ∃ F6, h4.2 p0 = zO 9 F6 ∧ ∃ x7, F6 3 = Value.ref x7 ∧ ((∃ F30, h4.2 x7 = zO 0 F30) ∧ zW d m_Book_hasClock h4.1 0 [Value.ref x7, Value.int p2] [] h4 (fun r8 h9 => ∃ x10, r8 = some (Value.int x10) ∧ ((if x10 = 0 then Q (some (Value.int (-1 : Int32))) h9 else (∃ F29, h9.2 p0 = zO 9 F29) ∧ zW d m_BL_freshChains h9.1 0 [Value.ref p0] [] h9 (fun r11 h12 => ∃ x13, r11 = some (Value.ref x13) ∧ ((∃ F28, h12.2 x13 = zO 1 F28) ∧ zW d m_Chains_aimAt h12.1 0 [Value.ref x13, Value.int p2, zD, zD, zD] [] h12 (fun r14 h15 => r14 = none ∧ (∃ F16, h15.2 p0 = zO 9 F16 ∧ ∃ x17, F16 4 = Value.ref x17 ∧ ((∃ F27, h15.2 x17 = zO 1 F27) ∧ zW d m_Chains_reachesAim h15.1 0 [Value.ref x17, Value.int p1] [] h15 (fun r18 h19 => ∃ x20, r18 = some (Value.int x20) ∧ ((if x20 = 0 then Q (some (Value.int (-4 : Int32))) h19 else ∃ F21, h19.2 p0 = zO 9 F21 ∧ ∃ x22, F21 4 = Value.ref x22 ∧ ((∃ F26, h19.2 x22 = zO 1 F26) ∧ zW d m_Chains_costToAim h19.1 0 [Value.ref x22, Value.int p1] [] h19 (fun r23 h24 => ∃ x25, r23 = some (Value.int x25) ∧ (Q (some (Value.int x25)) h24)))))))))))))))))))) : zW (d + 1) m_BL_cost e 0 [Value.ref p0, Value.int p1, Value.int p2] [] h Q := zWg_run (C := zc_BL_cost) (B := (0, 0)) rfl rfl [] 25 0 _ _ _ K
set_option maxRecDepth 100000 in
theorem b_BL_chain_0 {d : Nat} {e : Nat × Nat} {h : zH} {Q : zQ} {p0 : Nat} {p1 : Int32} {p2 : Int32} {p3 : Int32} (K : ∃ F1, h.2 p0 = zO 9 F1 ∧ ∃ x2, F1 3 = Value.ref x2 ∧ ((∃ F31, h.2 x2 = zO 0 F31) ∧ zW d m_Book_hasClock h.1 0 [Value.ref x2, Value.int p1] [] h (fun r3 h4 => ∃ x5, r3 = some (Value.int x5) ∧ ((if x5 = 0 then Q (some (Value.int (-1 : Int32))) h4 else ∃ F6, h4.2 p0 = zO 9 F6 ∧ ∃ x7, F6 3 = Value.ref x7 ∧ ((∃ F30, h4.2 x7 = zO 0 F30) ∧ zW d m_Book_hasClock h4.1 0 [Value.ref x7, Value.int p2] [] h4 (fun r8 h9 => ∃ x10, r8 = some (Value.int x10) ∧ ((if x10 = 0 then Q (some (Value.int (-1 : Int32))) h9 else (if 0 ≤ p3 then (∃ F29, h9.2 p0 = zO 9 F29) ∧ zW d m_BL_freshChains h9.1 0 [Value.ref p0] [] h9 (fun r11 h12 => ∃ x13, r11 = some (Value.ref x13) ∧ ((∃ F28, h12.2 x13 = zO 1 F28) ∧ zW d m_Chains_aimAt h12.1 0 [Value.ref x13, Value.int p2, zD, zD, zD] [] h12 (fun r14 h15 => r14 = none ∧ (∃ F16, h15.2 p0 = zO 9 F16 ∧ ∃ x17, F16 4 = Value.ref x17 ∧ ((∃ F27, h15.2 x17 = zO 1 F27) ∧ zW d m_Chains_reachesAim h15.1 0 [Value.ref x17, Value.int p1] [] h15 (fun r18 h19 => ∃ x20, r18 = some (Value.int x20) ∧ ((if x20 = 0 then Q (some (Value.int (-4 : Int32))) h19 else ∃ F21, h19.2 p0 = zO 9 F21 ∧ ∃ x22, F21 4 = Value.ref x22 ∧ ((∃ F26, h19.2 x22 = zO 1 F26) ∧ zW d m_Chains_hopsToAim h19.1 0 [Value.ref x22, Value.int p1] [] h19 (fun r23 h24 => ∃ x25, r23 = some (Value.int x25) ∧ ((if p3 ≤ x25 then zW (d + 1) m_BL_chain e 68 [Value.ref p0, zD, zD, Value.int p3, Value.int p1, Value.int (0 : Int32)] [] h24 Q else Q (some (Value.int (-4 : Int32))) h24)))))))))))) else Q (some (Value.int (-1 : Int32))) h9)))))))))) : zW (d + 1) m_BL_chain e 0 [Value.ref p0, Value.int p1, Value.int p2, Value.int p3, zD, zD] [] h Q := zWg_run (C := zc_BL_chain) (B := (0, 0)) rfl rfl [68] 31 0 _ _ _ K
set_option maxRecDepth 100000 in
theorem b_BL_chain_68 {d : Nat} {e : Nat × Nat} {h : zH} {Q : zQ} {p0 : Nat} {p3 : Int32} {p4 : Int32} {p5 : Int32} (K : (if p3 ≤ p5 then Q (some (Value.int p4)) h else ∃ F1, h.2 p0 = zO 9 F1 ∧ ∃ x2, F1 4 = Value.ref x2 ∧ ((∃ F6, h.2 x2 = zO 1 F6) ∧ zW d m_Chains_nextToAim h.1 0 [Value.ref x2, Value.int p4, zD] [] h (fun r3 h4 => ∃ x5, r3 = some (Value.int x5) ∧ (zW (d + 1) m_BL_chain e 68 [Value.ref p0, zD, zD, Value.int p3, Value.int x5, Value.int (p5 + 1)] [] h4 Q))))) : zW (d + 1) m_BL_chain e 68 [Value.ref p0, zD, zD, Value.int p3, Value.int p4, Value.int p5] [] h Q := zWg_run (C := zc_BL_chain) (B := (0, 0)) rfl rfl [68] 10 68 _ _ _ K
set_option maxRecDepth 100000 in
theorem b_BL_taken_0 {d : Nat} {e : Nat × Nat} {h : zH} {Q : zQ} {p0 : Nat} {p1 : Int32} {p2 : Int32} {p3 : Int64} (K : (∃ F1, h.2 p0 = zO 9 F1 ∧ ∀ h2, h2 = zP h p0 (zO 9 (zU F1 11 (Value.int (0 : Int32)))) → (∃ F3, h2.2 p0 = zO 9 F3 ∧ ∃ x4, F3 3 = Value.ref x4 ∧ ((∃ F34, h2.2 x4 = zO 0 F34) ∧ zW d m_Book_hasClock h2.1 0 [Value.ref x4, Value.int p1] [] h2 (fun r5 h6 => ∃ x7, r5 = some (Value.int x7) ∧ ((if x7 = 0 then Q (some (Value.long (-1 : Int64))) h6 else ∃ F8, h6.2 p0 = zO 9 F8 ∧ ∃ x9, F8 3 = Value.ref x9 ∧ ((∃ F33, h6.2 x9 = zO 0 F33) ∧ zW d m_Book_hasClock h6.1 0 [Value.ref x9, Value.int p2] [] h6 (fun r10 h11 => ∃ x12, r10 = some (Value.int x12) ∧ ((if x12 = 0 then Q (some (Value.long (-1 : Int64))) h11 else (∃ F32, h11.2 p0 = zO 9 F32) ∧ zW d m_BL_freshChains h11.1 0 [Value.ref p0] [] h11 (fun r13 h14 => ∃ x15, r13 = some (Value.ref x15) ∧ ((∃ F31, h14.2 x15 = zO 1 F31) ∧ zW d m_Chains_reaches h14.1 0 [Value.ref x15, Value.int p1, Value.int p2] [] h14 (fun r16 h17 => ∃ x18, r16 = some (Value.int x18) ∧ ((if x18 = 0 then Q (some (Value.long (-2 : Int64))) h17 else ∃ F19, h17.2 p0 = zO 9 F19 ∧ ∃ x20, F19 6 = Value.ref x20 ∧ ((∃ F30, h17.2 x20 = zO 7 F30) ∧ zW d m_Time_startAt h17.1 0 [Value.ref x20, Value.long p3, zD] [] h17 (fun r21 h22 => r21 = none ∧ ((∃ F29, h22.2 p0 = zO 9 F29) ∧ zW d m_BL_takeAlong h22.1 0 [Value.ref p0, Value.int p1, Value.int p2, zD, zD, zD] [] h22 (fun r23 h24 => r23 = none ∧ ((∃ F28, h24.2 p0 = zO 9 F28) ∧ zW d m_BL_toldTime h24.1 0 [Value.ref p0] [] h24 (fun r25 h26 => ∃ x27, r25 = some (Value.long x27) ∧ (Q (some (Value.long x27)) h26))))))))))))))))))))))) : zW (d + 1) m_BL_taken e 0 [Value.ref p0, Value.int p1, Value.int p2, Value.long p3, zD] [] h Q := zWg_run (C := zc_BL_taken) (B := (0, 0)) rfl rfl [] 30 0 _ _ _ K
set_option maxRecDepth 100000 in
theorem b_BL_ok_0 {d : Nat} {e : Nat × Nat} {h : zH} {Q : zQ} {p0 : Nat} (K : ∃ F1, h.2 p0 = zO 9 F1 ∧ ∃ x2, F1 11 = Value.int x2 ∧ (Q (some (Value.int x2)) h)) : zW (d + 1) m_BL_ok e 0 [Value.ref p0] [] h Q := zWg_run (C := zc_BL_ok) (B := (0, 0)) rfl rfl [] 3 0 _ _ _ K
set_option maxRecDepth 100000 in
theorem b_BL_there_0 {d : Nat} {e : Nat × Nat} {h : zH} {Q : zQ} {p0 : Nat} {p1 : Int32} {p2 : Int32} {p3 : Int64} (K : (∃ F1, h.2 p0 = zO 9 F1 ∧ ∀ h2, h2 = zP h p0 (zO 9 (zU F1 11 (Value.int (0 : Int32)))) → (∃ F3, h2.2 p0 = zO 9 F3 ∧ ∃ x4, F3 3 = Value.ref x4 ∧ ((∃ F8, h2.2 x4 = zO 0 F8) ∧ zW d m_Book_hasClock h2.1 0 [Value.ref x4, Value.int p1] [] h2 (fun r5 h6 => ∃ x7, r5 = some (Value.int x7) ∧ ((if x7 = 0 then Q (some (Value.long (-1 : Int64))) h6 else zW (d + 1) m_BL_there e 16 [Value.ref p0, Value.int p1, Value.int p2, Value.long p3, zD] [] h6 Q))))))) : zW (d + 1) m_BL_there e 0 [Value.ref p0, Value.int p1, Value.int p2, Value.long p3, zD] [] h Q := zWg_run (C := zc_BL_there) (B := (0, 0)) rfl rfl [16] 10 0 _ _ _ K
set_option maxRecDepth 100000 in
theorem b_BL_there_16 {d : Nat} {e : Nat × Nat} {h : zH} {Q : zQ} {p0 : Nat} {p1 : Int32} {p2 : Int32} {p3 : Int64} (K : ∃ F1, h.2 p0 = zO 9 F1 ∧ ∃ x2, F1 3 = Value.ref x2 ∧ ((∃ F40, h.2 x2 = zO 0 F40) ∧ zW d m_Book_hasClock h.1 0 [Value.ref x2, Value.int p2] [] h (fun r3 h4 => ∃ x5, r3 = some (Value.int x5) ∧ ((if x5 = 0 then Q (some (Value.long (-1 : Int64))) h4 else (∃ F39, h4.2 p0 = zO 9 F39) ∧ zW d m_BL_freshChains h4.1 0 [Value.ref p0] [] h4 (fun r6 h7 => ∃ x8, r6 = some (Value.ref x8) ∧ ((∃ F38, h7.2 x8 = zO 1 F38) ∧ zW d m_Chains_reaches h7.1 0 [Value.ref x8, Value.int p1, Value.int p2] [] h7 (fun r9 h10 => ∃ x11, r9 = some (Value.int x11) ∧ ((if x11 = 0 then Q (some (Value.long (-2 : Int64))) h10 else ∃ F12, h10.2 p0 = zO 9 F12 ∧ ∃ x13, F12 4 = Value.ref x13 ∧ ((∃ F37, h10.2 x13 = zO 1 F37) ∧ zW d m_Chains_reaches h10.1 0 [Value.ref x13, Value.int p2, Value.int p1] [] h10 (fun r14 h15 => ∃ x16, r14 = some (Value.int x16) ∧ ((if x16 = 0 then Q (some (Value.long (-2 : Int64))) h15 else ∃ F17, h15.2 p0 = zO 9 F17 ∧ ∃ x18, F17 6 = Value.ref x18 ∧ ((∃ F36, h15.2 x18 = zO 7 F36) ∧ zW d m_Time_startAt h15.1 0 [Value.ref x18, Value.long p3, zD] [] h15 (fun r19 h20 => r19 = none ∧ ((∃ F35, h20.2 p0 = zO 9 F35) ∧ zW d m_BL_takeAlong h20.1 0 [Value.ref p0, Value.int p1, Value.int p2, zD, zD, zD] [] h20 (fun r21 h22 => r21 = none ∧ ((∃ F34, h22.2 p0 = zO 9 F34) ∧ zW d m_BL_takeAlong h22.1 0 [Value.ref p0, Value.int p2, Value.int p1, zD, zD, zD] [] h22 (fun r23 h24 => r23 = none ∧ (∃ F25, h24.2 p0 = zO 9 F25 ∧ ∃ x26, F25 6 = Value.ref x26 ∧ ((∃ F33, h24.2 x26 = zO 7 F33) ∧ zW d m_Time_subtract h24.1 0 [Value.ref x26, Value.long p3, zD] [] h24 (fun r27 h28 => r27 = none ∧ ((∃ F32, h28.2 p0 = zO 9 F32) ∧ zW d m_BL_toldTime h28.1 0 [Value.ref p0] [] h28 (fun r29 h30 => ∃ x31, r29 = some (Value.long x31) ∧ (Q (some (Value.long x31)) h30)))))))))))))))))))))))))) : zW (d + 1) m_BL_there e 16 [Value.ref p0, Value.int p1, Value.int p2, Value.long p3, zD] [] h Q := zWg_run (C := zc_BL_there) (B := (0, 0)) rfl rfl [16] 36 16 _ _ _ K
set_option maxRecDepth 100000 in
theorem b_BL_takeAlong_0 {d : Nat} {e : Nat × Nat} {h : zH} {Q : zQ} {p0 : Nat} {p1 : Int32} {p2 : Int32} (K : ∃ F1, h.2 p0 = zO 9 F1 ∧ ∃ x2, F1 4 = Value.ref x2 ∧ ((∃ F5, h.2 x2 = zO 1 F5) ∧ zW d m_Chains_aimAt h.1 0 [Value.ref x2, Value.int p2, zD, zD, zD] [] h (fun r3 h4 => r3 = none ∧ (zW (d + 1) m_BL_takeAlong e 13 [Value.ref p0, zD, Value.int p2, Value.int p1, Value.int (0 : Int32), zD] [] h4 Q)))) : zW (d + 1) m_BL_takeAlong e 0 [Value.ref p0, Value.int p1, Value.int p2, zD, zD, zD] [] h Q := zWg_run (C := zc_BL_takeAlong) (B := (0, 0)) rfl rfl [13] 8 0 _ _ _ K
set_option maxRecDepth 100000 in
theorem b_BL_takeAlong_13 {d : Nat} {e : Nat × Nat} {h : zH} {Q : zQ} {p0 : Nat} {p2 : Int32} {p3 : Int32} {p4 : Int32} (K : (if (7 : Int32) ≤ p4 then Q none h else (if p3 = p2 then Q none h else ∃ F1, h.2 p0 = zO 9 F1 ∧ ∃ x2, F1 4 = Value.ref x2 ∧ ((∃ F17, h.2 x2 = zO 1 F17) ∧ zW d m_Chains_nextToAim h.1 0 [Value.ref x2, Value.int p3, zD] [] h (fun r3 h4 => ∃ x5, r3 = some (Value.int x5) ∧ (∃ F6, h4.2 p0 = zO 9 F6 ∧ ∃ x7, F6 6 = Value.ref x7 ∧ (∃ F8, h4.2 p0 = zO 9 F8 ∧ ∃ x9, F8 2 = Value.ref x9 ∧ ((∃ F16, h4.2 x9 = zO 8 F16) ∧ zW d m_Web_lineOf h4.1 0 [Value.ref x9, Value.int p3, Value.int x5, zD] [] h4 (fun r10 h11 => ∃ x12, r10 = some (Value.ref x12) ∧ ((∃ F15, h11.2 x7 = zO 7 F15) ∧ zW d m_Time_takeBy h11.1 0 [Value.ref x7, Value.ref x12, zD, zD, zD, zD] [] h11 (fun r13 h14 => r13 = none ∧ (zW (d + 1) m_BL_takeAlong e 13 [Value.ref p0, zD, Value.int p2, Value.int x5, Value.int (p4 + 1), zD] [] h14 Q)))))))))))) : zW (d + 1) m_BL_takeAlong e 13 [Value.ref p0, zD, Value.int p2, Value.int p3, Value.int p4, zD] [] h Q := zWg_run (C := zc_BL_takeAlong) (B := (0, 0)) rfl rfl [13] 23 13 _ _ _ K
set_option maxRecDepth 100000 in
theorem b_BL_freshChains_0 {d : Nat} {e : Nat × Nat} {h : zH} {Q : zQ} {p0 : Nat} (K : ∃ F1, h.2 p0 = zO 9 F1 ∧ ∃ x2, F1 4 = Value.ref x2 ∧ (∃ F3, h.2 p0 = zO 9 F3 ∧ ∃ x4, F3 2 = Value.ref x4 ∧ ((∃ F9, h.2 x2 = zO 1 F9) ∧ zW d m_Chains_renew h.1 0 [Value.ref x2, Value.ref x4, zD, zD, zD] [] h (fun r5 h6 => r5 = none ∧ (∃ F7, h6.2 p0 = zO 9 F7 ∧ ∃ x8, F7 4 = Value.ref x8 ∧ (Q (some (Value.ref x8)) h6)))))) : zW (d + 1) m_BL_freshChains e 0 [Value.ref p0] [] h Q := zWg_run (C := zc_BL_freshChains) (B := (0, 0)) rfl rfl [] 8 0 _ _ _ K
set_option maxRecDepth 100000 in
theorem b_BL_toldTime_0 {d : Nat} {e : Nat × Nat} {h : zH} {Q : zQ} {p0 : Nat} (K : ∃ F1, h.2 p0 = zO 9 F1 ∧ ∃ x2, F1 6 = Value.ref x2 ∧ (∃ F3, h.2 x2 = zO 7 F3 ∧ ∃ x4, F3 1 = Value.int x4 ∧ ((if x4 = 0 then (∃ F5, h.2 p0 = zO 9 F5 ∧ ∀ h6, h6 = zP h p0 (zO 9 (zU F5 11 (Value.int (1 : Int32)))) → (∃ F7, h6.2 p0 = zO 9 F7 ∧ ∃ x8, F7 6 = Value.ref x8 ∧ (∃ F9, h6.2 x8 = zO 7 F9 ∧ ∃ x10, F9 0 = Value.long x10 ∧ (Q (some (Value.long x10)) h6)))) else Q (some (Value.long (-3 : Int64))) h)))) : zW (d + 1) m_BL_toldTime e 0 [Value.ref p0] [] h Q := zWg_run (C := zc_BL_toldTime) (B := (0, 0)) rfl rfl [] 11 0 _ _ _ K
set_option maxRecDepth 100000 in
theorem b_BL_hear_0 {d : Nat} {e : Nat × Nat} {h : zH} {Q : zQ} {p0 : Nat} {p1 : Int32} {p2 : Int32} {p3 : Int32} (K : zW d m_BL_isBeacon h.1 0 [Value.int p1] [] h (fun r1 h2 => ∃ x3, r1 = some (Value.int x3) ∧ ((if x3 = 0 then Q (some (Value.int (-1 : Int32))) h2 else ∃ F4, h2.2 p0 = zO 9 F4 ∧ ∃ x5, F4 3 = Value.ref x5 ∧ ((∃ F13, h2.2 x5 = zO 0 F13) ∧ zW d m_Book_hasClock h2.1 0 [Value.ref x5, Value.int p2] [] h2 (fun r6 h7 => ∃ x8, r6 = some (Value.int x8) ∧ ((if x8 = 0 then Q (some (Value.int (-1 : Int32))) h7 else (if p3 < 0 then Q (some (Value.int (-1 : Int32))) h7 else (if p3 ≤ (9999 : Int32) then (∃ F12, h7.2 p0 = zO 9 F12) ∧ zW d m_BL_replaceStamp h7.1 0 [Value.ref p0, Value.int p1, Value.int p2, Value.int p3, zD] [] h7 (fun r9 h10 => ∃ x11, r9 = some (Value.int x11) ∧ (Q (some (Value.int x11)) h10)) else Q (some (Value.int (-1 : Int32))) h7)))))))))) : zW (d + 1) m_BL_hear e 0 [Value.ref p0, Value.int p1, Value.int p2, Value.int p3] [] h Q := zWg_run (C := zc_BL_hear) (B := (0, 0)) rfl rfl [] 19 0 _ _ _ K
set_option maxRecDepth 100000 in
theorem b_BL_lose_0 {d : Nat} {e : Nat × Nat} {h : zH} {Q : zQ} {p0 : Nat} {p1 : Int32} {p2 : Int32} (K : zW d m_BL_isBeacon h.1 0 [Value.int p1] [] h (fun r1 h2 => ∃ x3, r1 = some (Value.int x3) ∧ ((if x3 = 0 then Q (some (Value.int (-1 : Int32))) h2 else ∃ F4, h2.2 p0 = zO 9 F4 ∧ ∃ x5, F4 3 = Value.ref x5 ∧ ((∃ F13, h2.2 x5 = zO 0 F13) ∧ zW d m_Book_hasClock h2.1 0 [Value.ref x5, Value.int p2] [] h2 (fun r6 h7 => ∃ x8, r6 = some (Value.int x8) ∧ ((if x8 = 0 then Q (some (Value.int (-1 : Int32))) h7 else (∃ F12, h7.2 p0 = zO 9 F12) ∧ zW d m_BL_replaceStamp h7.1 0 [Value.ref p0, Value.int p1, Value.int p2, Value.int (-4 : Int32), zD] [] h7 (fun r9 h10 => ∃ x11, r9 = some (Value.int x11) ∧ (Q (some (Value.int x11)) h10)))))))))) : zW (d + 1) m_BL_lose e 0 [Value.ref p0, Value.int p1, Value.int p2] [] h Q := zWg_run (C := zc_BL_lose) (B := (0, 0)) rfl rfl [] 14 0 _ _ _ K
set_option maxRecDepth 100000 in
theorem b_BL_replaceStamp_0 {d : Nat} {e : Nat × Nat} {h : zH} {Q : zQ} {p0 : Nat} {p1 : Int32} {p2 : Int32} {p3 : Int32} (K : ∃ F1, h.2 p0 = zO 9 F1 ∧ ∃ x2, F1 3 = Value.ref x2 ∧ ((∃ F16, h.2 x2 = zO 0 F16) ∧ zW d m_Book_stampAt h.1 0 [Value.ref x2, Value.int p1, Value.int p2] [] h (fun r3 h4 => ∃ x5, r3 = some (Value.int x5) ∧ (∃ F6, h4.2 p0 = zO 9 F6 ∧ ∃ x7, F6 3 = Value.ref x7 ∧ ((∃ F15, h4.2 x7 = zO 0 F15) ∧ zW d m_Book_putStamp h4.1 0 [Value.ref x7, Value.int p1, Value.int p2, Value.int p3] [] h4 (fun r8 h9 => r8 = none ∧ (∃ F10, h9.2 p0 = zO 9 F10 ∧ ∃ x11, F10 2 = Value.ref x11 ∧ ((∃ F14, h9.2 x11 = zO 8 F14) ∧ zW d m_Web_touch h9.1 0 [Value.ref x11, Value.int p2] [] h9 (fun r12 h13 => r12 = none ∧ (Q (some (Value.int x5)) h13)))))))))) : zW (d + 1) m_BL_replaceStamp e 0 [Value.ref p0, Value.int p1, Value.int p2, Value.int p3, zD] [] h Q := zWg_run (C := zc_BL_replaceStamp) (B := (0, 0)) rfl rfl [] 18 0 _ _ _ K
set_option maxRecDepth 100000 in
theorem b_BL_shift_0 {d : Nat} {e : Nat × Nat} {h : zH} {Q : zQ} {p0 : Nat} {p1 : Int32} {p2 : Int32} (K : ∃ F1, h.2 p0 = zO 9 F1 ∧ ∃ x2, F1 3 = Value.ref x2 ∧ ((∃ F23, h.2 x2 = zO 0 F23) ∧ zW d m_Book_hasClock h.1 0 [Value.ref x2, Value.int p1] [] h (fun r3 h4 => ∃ x5, r3 = some (Value.int x5) ∧ ((if x5 = 0 then Q (some (Value.int (-1 : Int32))) h4 else (if p2 < (-9999 : Int32) then Q (some (Value.int (-1 : Int32))) h4 else (if p2 ≤ (9999 : Int32) then ∃ F6, h4.2 p0 = zO 9 F6 ∧ ∃ x7, F6 3 = Value.ref x7 ∧ ((∃ F22, h4.2 x7 = zO 0 F22) ∧ zW d m_Book_canMove h4.1 0 [Value.ref x7, Value.int p1, Value.int p2, zD, zD] [] h4 (fun r8 h9 => ∃ x10, r8 = some (Value.int x10) ∧ ((if x10 = 0 then Q (some (Value.int (-2 : Int32))) h9 else ∃ F11, h9.2 p0 = zO 9 F11 ∧ ∃ x12, F11 2 = Value.ref x12 ∧ ((∃ F21, h9.2 x12 = zO 8 F21) ∧ zW d m_Web_touch h9.1 0 [Value.ref x12, Value.int p1] [] h9 (fun r13 h14 => r13 = none ∧ (∃ F15, h14.2 p0 = zO 9 F15 ∧ ∃ x16, F15 3 = Value.ref x16 ∧ ((∃ F20, h14.2 x16 = zO 0 F20) ∧ zW d m_Book_moveStamps h14.1 0 [Value.ref x16, Value.int p1, Value.int p2, zD, zD, zD] [] h14 (fun r17 h18 => ∃ x19, r17 = some (Value.int x19) ∧ (Q (some (Value.int x19)) h18)))))))))) else Q (some (Value.int (-1 : Int32))) h4))))))) : zW (d + 1) m_BL_shift e 0 [Value.ref p0, Value.int p1, Value.int p2] [] h Q := zWg_run (C := zc_BL_shift) (B := (0, 0)) rfl rfl [] 27 0 _ _ _ K
set_option maxRecDepth 100000 in
theorem b_BL_set_0 {d : Nat} {e : Nat × Nat} {h : zH} {Q : zQ} {p0 : Nat} {p1 : Int32} {p2 : Int32} (K : (if p1 = (2 : Int32) then zW d m_BL_isLimit h.1 0 [Value.int p2] [] h (fun r1 h2 => ∃ x3, r1 = some (Value.int x3) ∧ ((if x3 = 0 then zW (d + 1) m_BL_set e 37 [Value.ref p0, Value.int p1, Value.int p2, zD] [] h2 Q else ∃ F4, h2.2 p0 = zO 9 F4 ∧ ∃ x5, F4 3 = Value.ref x5 ∧ (∃ F6, h2.2 x5 = zO 0 F6 ∧ ∃ x7, F6 1 = Value.int x7 ∧ (∃ F8, h2.2 p0 = zO 9 F8 ∧ ∃ x9, F8 3 = Value.ref x9 ∧ ((∃ F10, h2.2 x9 = zO 0 F10 ∧ ∀ h11, h11 = zP h2 x9 (zO 0 (zU F10 1 (Value.int p2))) → (∃ F12, h11.2 p0 = zO 9 F12 ∧ ∃ x13, F12 2 = Value.ref x13 ∧ ((∃ F16, h11.2 x13 = zO 8 F16) ∧ zW d m_Web_touchAll h11.1 0 [Value.ref x13] [] h11 (fun r14 h15 => r14 = none ∧ (Q (some (Value.int x7)) h15))))))))))) else zW (d + 1) m_BL_set e 37 [Value.ref p0, Value.int p1, Value.int p2, zD] [] h Q)) : zW (d + 1) m_BL_set e 0 [Value.ref p0, Value.int p1, Value.int p2, zD] [] h Q := zWg_run (C := zc_BL_set) (B := (0, 0)) rfl rfl [37] 19 0 _ _ _ K
set_option maxRecDepth 100000 in
theorem b_BL_set_37 {d : Nat} {e : Nat × Nat} {h : zH} {Q : zQ} {p0 : Nat} {p1 : Int32} {p2 : Int32} (K : (if p1 = (3 : Int32) then zW d m_BL_isLeast h.1 0 [Value.int p2] [] h (fun r1 h2 => ∃ x3, r1 = some (Value.int x3) ∧ ((if x3 = 0 then Q (some (Value.int (-1 : Int32))) h2 else ∃ F4, h2.2 p0 = zO 9 F4 ∧ ∃ x5, F4 3 = Value.ref x5 ∧ (∃ F6, h2.2 x5 = zO 0 F6 ∧ ∃ x7, F6 2 = Value.int x7 ∧ (∃ F8, h2.2 p0 = zO 9 F8 ∧ ∃ x9, F8 3 = Value.ref x9 ∧ ((∃ F10, h2.2 x9 = zO 0 F10 ∧ ∀ h11, h11 = zP h2 x9 (zO 0 (zU F10 2 (Value.int p2))) → (∃ F12, h11.2 p0 = zO 9 F12 ∧ ∃ x13, F12 2 = Value.ref x13 ∧ ((∃ F16, h11.2 x13 = zO 8 F16) ∧ zW d m_Web_touchAll h11.1 0 [Value.ref x13] [] h11 (fun r14 h15 => r14 = none ∧ (Q (some (Value.int x7)) h15))))))))))) else Q (some (Value.int (-1 : Int32))) h)) : zW (d + 1) m_BL_set e 37 [Value.ref p0, Value.int p1, Value.int p2, zD] [] h Q := zWg_run (C := zc_BL_set) (B := (0, 0)) rfl rfl [37] 19 37 _ _ _ K
set_option maxRecDepth 100000 in
theorem b_BL_draw_0 {d : Nat} {e : Nat × Nat} {h : zH} {Q : zQ} {p0 : Nat} {p1 : Int32} {p2 : Int32} (K : zW d m_BL_isClockCount h.1 0 [Value.int p2] [] h (fun r1 h2 => ∃ x3, r1 = some (Value.int x3) ∧ ((if x3 = 0 then Q (some (Value.int (-1 : Int32))) h2 else ∃ F4, h2.2 p0 = zO 9 F4 ∧ ∃ x5, F4 5 = Value.ref x5 ∧ (∃ F6, h2.2 p0 = zO 9 F6 ∧ ∃ x7, F6 3 = Value.ref x7 ∧ ((∃ F21, h2.2 x5 = zO 2 F21) ∧ zW d m_Drawer_fill h2.1 0 [Value.ref x5, Value.ref x7, Value.int p1, Value.int p2, zD, zD] [] h2 (fun r8 h9 => r8 = none ∧ (∃ F10, h9.2 p0 = zO 9 F10 ∧ ∃ x11, F10 2 = Value.ref x11 ∧ ((∃ F20, h9.2 x11 = zO 8 F20) ∧ zW d m_Web_touchAll h9.1 0 [Value.ref x11] [] h9 (fun r12 h13 => r12 = none ∧ (∃ F14, h13.2 p0 = zO 9 F14 ∧ ∃ x15, F14 3 = Value.ref x15 ∧ ((∃ F19, h13.2 x15 = zO 0 F19) ∧ zW d m_Book_allStamps h13.1 0 [Value.ref x15, zD, zD] [] h13 (fun r16 h17 => ∃ x18, r16 = some (Value.int x18) ∧ (Q (some (Value.int x18)) h17)))))))))))))) : zW (d + 1) m_BL_draw e 0 [Value.ref p0, Value.int p1, Value.int p2] [] h Q := zWg_run (C := zc_BL_draw) (B := (0, 0)) rfl rfl [] 17 0 _ _ _ K
set_option maxRecDepth 100000 in
theorem b_BL_keep_0 {d : Nat} {e : Nat × Nat} {h : zH} {Q : zQ} {p0 : Nat} {p1 : Int32} (K : zW d m_BL_isImage h.1 0 [Value.int p1] [] h (fun r1 h2 => ∃ x3, r1 = some (Value.int x3) ∧ ((if x3 = 0 then Q (some (Value.int (-1 : Int32))) h2 else ∃ F4, h2.2 p0 = zO 9 F4 ∧ ∃ x5, F4 8 = Value.ref x5 ∧ (∃ n6 f7, h2.2 x5 = zI 1 n6 f7 ∧ zIn p1 n6 ∧ ((if (f7 p1.toNatClampNeg) = 0 then zW (d + 1) m_BL_keep e 23 [Value.ref p0, Value.int p1, zD] [Value.int (0 : Int32)] h2 Q else zW (d + 1) m_BL_keep e 23 [Value.ref p0, Value.int p1, zD] [Value.int (1 : Int32)] h2 Q))))))) : zW (d + 1) m_BL_keep e 0 [Value.ref p0, Value.int p1, zD] [] h Q := zWg_run (C := zc_BL_keep) (B := (0, 0)) rfl rfl [23] 10 0 _ _ _ K
set_option maxRecDepth 100000 in
theorem b_BL_keep_23 {d : Nat} {e : Nat × Nat} {h : zH} {Q : zQ} {p0 : Nat} {p1 : Int32} {s0 : Int32} (K : ∃ F1, h.2 p0 = zO 9 F1 ∧ ∃ x2, F1 7 = Value.ref x2 ∧ (∃ n3 f4, h.2 x2 = zR 0 n3 f4 ∧ zIn p1 n3 ∧ ∃ x5, f4 p1.toNatClampNeg = some x5 ∧ (∃ F6, h.2 p0 = zO 9 F6 ∧ ∃ x7, F6 3 = Value.ref x7 ∧ ((∃ F15, h.2 x5 = zO 0 F15) ∧ zW d m_Book_copyFrom h.1 0 [Value.ref x5, Value.ref x7] [] h (fun r8 h9 => r8 = none ∧ (∃ F10, h9.2 p0 = zO 9 F10 ∧ ∃ x11, F10 8 = Value.ref x11 ∧ (((1 : Int32) = 0 ∨ (1 : Int32) = 1) ∧ (∃ n12 f13, h9.2 x11 = zI 1 n12 f13 ∧ zIn p1 n12 ∧ ∀ h14, h14 = zP h9 x11 (zI 1 n12 (zU f13 p1.toNatClampNeg (1 : Int32))) → (Q (some (Value.int s0)) h14))))))))) : zW (d + 1) m_BL_keep e 23 [Value.ref p0, Value.int p1, zD] [Value.int s0] h Q := zWg_run (C := zc_BL_keep) (B := (0, 0)) rfl rfl [23] 15 23 _ _ _ K
set_option maxRecDepth 100000 in
theorem b_BL_back_0 {d : Nat} {e : Nat × Nat} {h : zH} {Q : zQ} {p0 : Nat} {p1 : Int32} (K : zW d m_BL_isImage h.1 0 [Value.int p1] [] h (fun r1 h2 => ∃ x3, r1 = some (Value.int x3) ∧ ((if x3 = 0 then Q (some (Value.int (-1 : Int32))) h2 else ∃ F4, h2.2 p0 = zO 9 F4 ∧ ∃ x5, F4 8 = Value.ref x5 ∧ (∃ n6 f7, h2.2 x5 = zI 1 n6 f7 ∧ zIn p1 n6 ∧ ((if (f7 p1.toNatClampNeg) = 0 then Q (some (Value.int (-2 : Int32))) h2 else ∃ F8, h2.2 p0 = zO 9 F8 ∧ ∃ x9, F8 3 = Value.ref x9 ∧ (∃ F10, h2.2 p0 = zO 9 F10 ∧ ∃ x11, F10 7 = Value.ref x11 ∧ (∃ n12 f13, h2.2 x11 = zR 0 n12 f13 ∧ zIn p1 n12 ∧ ∃ x14, f13 p1.toNatClampNeg = some x14 ∧ ((∃ F28, h2.2 x9 = zO 0 F28) ∧ zW d m_Book_copyFrom h2.1 0 [Value.ref x9, Value.ref x14] [] h2 (fun r15 h16 => r15 = none ∧ (∃ F17, h16.2 p0 = zO 9 F17 ∧ ∃ x18, F17 2 = Value.ref x18 ∧ ((∃ F27, h16.2 x18 = zO 8 F27) ∧ zW d m_Web_touchAll h16.1 0 [Value.ref x18] [] h16 (fun r19 h20 => r19 = none ∧ (∃ F21, h20.2 p0 = zO 9 F21 ∧ ∃ x22, F21 3 = Value.ref x22 ∧ ((∃ F26, h20.2 x22 = zO 0 F26) ∧ zW d m_Book_allStamps h20.1 0 [Value.ref x22, zD, zD] [] h20 (fun r23 h24 => ∃ x25, r23 = some (Value.int x25) ∧ (Q (some (Value.int x25)) h24)))))))))))))))))) : zW (d + 1) m_BL_back e 0 [Value.ref p0, Value.int p1] [] h Q := zWg_run (C := zc_BL_back) (B := (0, 0)) rfl rfl [] 22 0 _ _ _ K
set_option maxRecDepth 100000 in
theorem b_BL_sheet_0 {d : Nat} {e : Nat × Nat} {h : zH} {Q : zQ} {p0 : Nat} {p1 : Int32} {p2 : Int32} {p3 : Int32} (K : zW d m_BL_isSheet h.1 0 [Value.int p1] [] h (fun r1 h2 => ∃ x3, r1 = some (Value.int x3) ∧ ((if x3 = 0 then Q (some (Value.int (-1 : Int32))) h2 else zW d m_BL_isLane h2.1 0 [Value.int p2] [] h2 (fun r4 h5 => ∃ x6, r4 = some (Value.int x6) ∧ ((if x6 = 0 then Q (some (Value.int (-1 : Int32))) h5 else (if p3 ≤ (48 : Int32) then (if 0 ≤ p3 then ∃ F7, h5.2 p0 = zO 9 F7 ∧ ∃ x8, F7 9 = Value.ref x8 ∧ (∃ n9 f10, h5.2 x8 = zR 4 n9 f10 ∧ zIn p1 n9 ∧ ∃ x11, f10 p1.toNatClampNeg = some x11 ∧ ((∃ F14, h5.2 x11 = zO 4 F14) ∧ zW d m_Sheet_renew h5.1 0 [Value.ref x11, Value.int p2, Value.int p3] [] h5 (fun r12 h13 => r12 = none ∧ (Q (some (Value.int (1 : Int32))) h13)))) else Q (some (Value.int (-14 : Int32))) h5) else Q (some (Value.int (-1 : Int32))) h5)))))))) : zW (d + 1) m_BL_sheet e 0 [Value.ref p0, Value.int p1, Value.int p2, Value.int p3] [] h Q := zWg_run (C := zc_BL_sheet) (B := (0, 0)) rfl rfl [] 20 0 _ _ _ K
set_option maxRecDepth 100000 in
theorem b_BL_lay_0 {d : Nat} {e : Nat × Nat} {h : zH} {Q : zQ} {p0 : Nat} {p1 : Int32} {p2 : Int32} {p3 : Int32} (K : zW d m_BL_isSheet h.1 0 [Value.int p1] [] h (fun r1 h2 => ∃ x3, r1 = some (Value.int x3) ∧ ((if x3 = 0 then Q (some (Value.int (-1 : Int32))) h2 else ∃ F4, h2.2 p0 = zO 9 F4 ∧ ∃ x5, F4 9 = Value.ref x5 ∧ (∃ n6 f7, h2.2 x5 = zR 4 n6 f7 ∧ zIn p1 n6 ∧ ∃ x8, f7 p1.toNatClampNeg = some x8 ∧ ((∃ F19, h2.2 x8 = zO 4 F19) ∧ zW d m_Sheet_isNothing h2.1 0 [Value.ref x8] [] h2 (fun r9 h10 => ∃ x11, r9 = some (Value.int x11) ∧ ((if x11 = 0 then (∃ F18, h10.2 x8 = zO 4 F18) ∧ zW d m_Sheet_hasCell h10.1 0 [Value.ref x8, Value.int p2] [] h10 (fun r12 h13 => ∃ x14, r12 = some (Value.int x14) ∧ ((if x14 = 0 then Q (some (Value.int (-13 : Int32))) h13 else (∃ F17, h13.2 x8 = zO 4 F17) ∧ zW d m_Sheet_putCell h13.1 0 [Value.ref x8, Value.int p2, Value.int p3] [] h13 (fun r15 h16 => r15 = none ∧ (Q (some (Value.int (1 : Int32))) h16))))) else Q (some (Value.int (-11 : Int32))) h10))))))))) : zW (d + 1) m_BL_lay e 0 [Value.ref p0, Value.int p1, Value.int p2, Value.int p3, zD] [] h Q := zWg_run (C := zc_BL_lay) (B := (0, 0)) rfl rfl [] 21 0 _ _ _ K
set_option maxRecDepth 100000 in
theorem b_BL_read_0 {d : Nat} {e : Nat × Nat} {h : zH} {Q : zQ} {p0 : Nat} {p1 : Int32} {p2 : Int32} {p3 : Int32} {p4 : Int32} {p5 : Int32} (K : zW d m_BL_isSheet h.1 0 [Value.int p1] [] h (fun r1 h2 => ∃ x3, r1 = some (Value.int x3) ∧ ((if x3 = 0 then Q (some (Value.int (-1 : Int32))) h2 else zW d m_BL_isLane h2.1 0 [Value.int p2] [] h2 (fun r4 h5 => ∃ x6, r4 = some (Value.int x6) ∧ ((if x6 = 0 then Q (some (Value.int (-1 : Int32))) h5 else ∃ F7, h5.2 p0 = zO 9 F7 ∧ ∃ x8, F7 3 = Value.ref x8 ∧ ((∃ F21, h5.2 x8 = zO 0 F21) ∧ zW d m_Book_hasClock h5.1 0 [Value.ref x8, Value.int p4] [] h5 (fun r9 h10 => ∃ x11, r9 = some (Value.int x11) ∧ ((if x11 = 0 then Q (some (Value.int (-1 : Int32))) h10 else (if p5 < 0 then Q (some (Value.int (-1 : Int32))) h10 else (if p5 ≤ (16 : Int32) then (if p5 = 0 then Q (some (Value.int (0 : Int32))) h10 else ∃ F12, h10.2 p0 = zO 9 F12 ∧ ∃ x13, F12 9 = Value.ref x13 ∧ (∃ n14 f15, h10.2 x13 = zR 4 n14 f15 ∧ zIn p1 n14 ∧ ∃ x16, f15 p1.toNatClampNeg = some x16 ∧ ((∃ F20, h10.2 x16 = zO 4 F20) ∧ zW d m_Sheet_firstFault h10.1 0 [Value.ref x16, Value.int p2, Value.int p3, Value.int p5, zD] [] h10 (fun r17 h18 => ∃ x19, r17 = some (Value.int x19) ∧ ((if x19 = 0 then zW (d + 1) m_BL_read e 77 [Value.ref p0, zD, zD, Value.int p3, Value.int p4, Value.int p5, Value.ref x16, zD, Value.int (0 : Int32)] [] h18 Q else Q (some (Value.int x19)) h18)))))) else Q (some (Value.int (-1 : Int32))) h10))))))))))))) : zW (d + 1) m_BL_read e 0 [Value.ref p0, Value.int p1, Value.int p2, Value.int p3, Value.int p4, Value.int p5, zD, zD, zD] [] h Q := zWg_run (C := zc_BL_read) (B := (0, 0)) rfl rfl [77] 33 0 _ _ _ K
set_option maxRecDepth 100000 in
theorem b_BL_read_77 {d : Nat} {e : Nat × Nat} {h : zH} {Q : zQ} {p0 : Nat} {p3 : Int32} {p4 : Int32} {p5 : Int32} {p6 : Nat} {p8 : Int32} (K : (if p5 ≤ p8 then ∃ F1, h.2 p0 = zO 9 F1 ∧ ∃ x2, F1 2 = Value.ref x2 ∧ ((∃ F5, h.2 x2 = zO 8 F5) ∧ zW d m_Web_touch h.1 0 [Value.ref x2, Value.int p4] [] h (fun r3 h4 => r3 = none ∧ (Q (some (Value.int p5)) h4))) else ∃ F6, h.2 p0 = zO 9 F6 ∧ ∃ x7, F6 3 = Value.ref x7 ∧ ((∃ F14, h.2 p6 = zO 4 F14) ∧ zW d m_Sheet_stampIn h.1 0 [Value.ref p6, Value.int (p3 + p8)] [] h (fun r8 h9 => ∃ x10, r8 = some (Value.int x10) ∧ ((∃ F13, h9.2 x7 = zO 0 F13) ∧ zW d m_Book_putStamp h9.1 0 [Value.ref x7, Value.int p8, Value.int p4, Value.int x10] [] h9 (fun r11 h12 => r11 = none ∧ (zW (d + 1) m_BL_read e 77 [Value.ref p0, zD, zD, Value.int p3, Value.int p4, Value.int p5, Value.ref p6, zD, Value.int (p8 + 1)] [] h12 Q))))))) : zW (d + 1) m_BL_read e 77 [Value.ref p0, zD, zD, Value.int p3, Value.int p4, Value.int p5, Value.ref p6, zD, Value.int p8] [] h Q := zWg_run (C := zc_BL_read) (B := (0, 0)) rfl rfl [77] 15 77 _ _ _ K
set_option maxRecDepth 100000 in
theorem b_BL_count_0 {d : Nat} {e : Nat × Nat} {h : zH} {Q : zQ} {p0 : Nat} {p1 : Int32} (K : (if p1 = 0 then ((∃ F4, h.2 p0 = zO 9 F4) ∧ zW d m_BL_keptImages h.1 0 [Value.ref p0, zD, zD] [] h (fun r1 h2 => ∃ x3, r1 = some (Value.int x3) ∧ (Q (some (Value.int x3)) h2))) else if p1 = 1 then (∃ F5, h.2 p0 = zO 9 F5 ∧ ∃ x6, F5 1 = Value.ref x6 ∧ (∃ F7, h.2 x6 = zO 5 F7 ∧ ∃ x8, F7 0 = Value.int x8 ∧ (Q (some (Value.int x8)) h))) else if p1 = 2 then (∃ F9, h.2 p0 = zO 9 F9 ∧ ∃ x10, F9 9 = Value.ref x10 ∧ (∃ n11 f12, h.2 x10 = zR 4 n11 f12 ∧ zIn (0 : Int32) n11 ∧ ∃ x13, f12 (0 : Int32).toNatClampNeg = some x13 ∧ ((∃ F24, h.2 x13 = zO 4 F24) ∧ zW d m_Sheet_isNothing h.1 0 [Value.ref x13] [] h (fun r14 h15 => ∃ x16, r14 = some (Value.int x16) ∧ ((if x16 = 0 then ∃ F17, h15.2 p0 = zO 9 F17 ∧ ∃ x18, F17 9 = Value.ref x18 ∧ (∃ n19 f20, h15.2 x18 = zR 4 n19 f20 ∧ zIn (0 : Int32) n19 ∧ ∃ x21, f20 (0 : Int32).toNatClampNeg = some x21 ∧ (∃ F22, h15.2 x21 = zO 4 F22 ∧ ∃ x23, F22 0 = Value.int x23 ∧ (Q (some (Value.int x23)) h15))) else Q (some (Value.int (-4 : Int32))) h15)))))) else (Q (some (Value.int (-1 : Int32))) h))) : zW (d + 1) m_BL_count e 0 [Value.ref p0, Value.int p1] [] h Q := zWg_run (C := zc_BL_count) (B := (0, 0)) rfl rfl [] 14 0 _ _ _ K
set_option maxRecDepth 100000 in
theorem b_BL_keptImages_0 {d : Nat} {e : Nat × Nat} {h : zH} {Q : zQ} {p0 : Nat} (K : zW (d + 1) m_BL_keptImages e 4 [Value.ref p0, Value.int (0 : Int32), Value.int (0 : Int32)] [] h Q) : zW (d + 1) m_BL_keptImages e 0 [Value.ref p0, zD, zD] [] h Q := zWg_run (C := zc_BL_keptImages) (B := (0, 0)) rfl rfl [4] 4 0 _ _ _ K
set_option maxRecDepth 100000 in
theorem b_BL_keptImages_4 {d : Nat} {e : Nat × Nat} {h : zH} {Q : zQ} {p0 : Nat} {p1 : Int32} {p2 : Int32} (K : (if (2 : Int32) ≤ p2 then Q (some (Value.int p1)) h else ∃ F1, h.2 p0 = zO 9 F1 ∧ ∃ x2, F1 8 = Value.ref x2 ∧ (∃ n3 f4, h.2 x2 = zI 1 n3 f4 ∧ zIn p2 n3 ∧ ((if (f4 p2.toNatClampNeg) = 0 then zW (d + 1) m_BL_keptImages e 4 [Value.ref p0, Value.int p1, Value.int (p2 + 1)] [] h Q else zW (d + 1) m_BL_keptImages e 4 [Value.ref p0, Value.int (p1 + 1), Value.int (p2 + 1)] [] h Q))))) : zW (d + 1) m_BL_keptImages e 4 [Value.ref p0, Value.int p1, Value.int p2] [] h Q := zWg_run (C := zc_BL_keptImages) (B := (0, 0)) rfl rfl [4] 11 4 _ _ _ K
set_option maxRecDepth 100000 in
theorem b_BL_isPair_0 {d : Nat} {e : Nat × Nat} {h : zH} {Q : zQ} {p0 : Nat} {p1 : Int32} {p2 : Int32} (K : ∃ F1, h.2 p0 = zO 9 F1 ∧ ∃ x2, F1 3 = Value.ref x2 ∧ ((∃ F12, h.2 x2 = zO 0 F12) ∧ zW d m_Book_hasClock h.1 0 [Value.ref x2, Value.int p1] [] h (fun r3 h4 => ∃ x5, r3 = some (Value.int x5) ∧ ((if x5 = 0 then (((0 : Int32) = 0 ∨ (0 : Int32) = 1) ∧ Q (some (Value.int (0 : Int32))) h4) else ∃ F6, h4.2 p0 = zO 9 F6 ∧ ∃ x7, F6 3 = Value.ref x7 ∧ ((∃ F11, h4.2 x7 = zO 0 F11) ∧ zW d m_Book_hasClock h4.1 0 [Value.ref x7, Value.int p2] [] h4 (fun r8 h9 => ∃ x10, r8 = some (Value.int x10) ∧ ((if x10 = 0 then (((0 : Int32) = 0 ∨ (0 : Int32) = 1) ∧ Q (some (Value.int (0 : Int32))) h9) else (if p1 = p2 then (((0 : Int32) = 0 ∨ (0 : Int32) = 1) ∧ Q (some (Value.int (0 : Int32))) h9) else (((1 : Int32) = 0 ∨ (1 : Int32) = 1) ∧ Q (some (Value.int (1 : Int32))) h9))))))))))) : zW (d + 1) m_BL_isPair e 0 [Value.ref p0, Value.int p1, Value.int p2] [] h Q := zWg_run (C := zc_BL_isPair) (B := (0, 0)) rfl rfl [] 16 0 _ _ _ K
set_option maxRecDepth 100000 in
theorem b_BL_isBeacon_0 {d : Nat} {e : Nat × Nat} {h : zH} {Q : zQ} {p0 : Int32} (K : (if p0 < 0 then (((0 : Int32) = 0 ∨ (0 : Int32) = 1) ∧ Q (some (Value.int (0 : Int32))) h) else (if (16 : Int32) ≤ p0 then (((0 : Int32) = 0 ∨ (0 : Int32) = 1) ∧ Q (some (Value.int (0 : Int32))) h) else (((1 : Int32) = 0 ∨ (1 : Int32) = 1) ∧ Q (some (Value.int (1 : Int32))) h)))) : zW (d + 1) m_BL_isBeacon e 0 [Value.int p0] [] h Q := zWg_run (C := zc_BL_isBeacon) (B := (0, 0)) rfl rfl [] 8 0 _ _ _ K
set_option maxRecDepth 100000 in
theorem b_BL_isClockCount_0 {d : Nat} {e : Nat × Nat} {h : zH} {Q : zQ} {p0 : Int32} (K : (if p0 < (1 : Int32) then (((0 : Int32) = 0 ∨ (0 : Int32) = 1) ∧ Q (some (Value.int (0 : Int32))) h) else (if (7 : Int32) < p0 then (((0 : Int32) = 0 ∨ (0 : Int32) = 1) ∧ Q (some (Value.int (0 : Int32))) h) else (((1 : Int32) = 0 ∨ (1 : Int32) = 1) ∧ Q (some (Value.int (1 : Int32))) h)))) : zW (d + 1) m_BL_isClockCount e 0 [Value.int p0] [] h Q := zWg_run (C := zc_BL_isClockCount) (B := (0, 0)) rfl rfl [] 9 0 _ _ _ K
set_option maxRecDepth 100000 in
theorem b_BL_isLimit_0 {d : Nat} {e : Nat × Nat} {h : zH} {Q : zQ} {p0 : Int32} (K : (if p0 < 0 then (((0 : Int32) = 0 ∨ (0 : Int32) = 1) ∧ Q (some (Value.int (0 : Int32))) h) else (if (99 : Int32) < p0 then (((0 : Int32) = 0 ∨ (0 : Int32) = 1) ∧ Q (some (Value.int (0 : Int32))) h) else (((1 : Int32) = 0 ∨ (1 : Int32) = 1) ∧ Q (some (Value.int (1 : Int32))) h)))) : zW (d + 1) m_BL_isLimit e 0 [Value.int p0] [] h Q := zWg_run (C := zc_BL_isLimit) (B := (0, 0)) rfl rfl [] 8 0 _ _ _ K
set_option maxRecDepth 100000 in
theorem b_BL_isLeast_0 {d : Nat} {e : Nat × Nat} {h : zH} {Q : zQ} {p0 : Int32} (K : (if p0 < (2 : Int32) then (((0 : Int32) = 0 ∨ (0 : Int32) = 1) ∧ Q (some (Value.int (0 : Int32))) h) else (if (6 : Int32) < p0 then (((0 : Int32) = 0 ∨ (0 : Int32) = 1) ∧ Q (some (Value.int (0 : Int32))) h) else (((1 : Int32) = 0 ∨ (1 : Int32) = 1) ∧ Q (some (Value.int (1 : Int32))) h)))) : zW (d + 1) m_BL_isLeast e 0 [Value.int p0] [] h Q := zWg_run (C := zc_BL_isLeast) (B := (0, 0)) rfl rfl [] 9 0 _ _ _ K
set_option maxRecDepth 100000 in
theorem b_BL_isImage_0 {d : Nat} {e : Nat × Nat} {h : zH} {Q : zQ} {p0 : Int32} (K : (if p0 < 0 then (((0 : Int32) = 0 ∨ (0 : Int32) = 1) ∧ Q (some (Value.int (0 : Int32))) h) else (if (2 : Int32) ≤ p0 then (((0 : Int32) = 0 ∨ (0 : Int32) = 1) ∧ Q (some (Value.int (0 : Int32))) h) else (((1 : Int32) = 0 ∨ (1 : Int32) = 1) ∧ Q (some (Value.int (1 : Int32))) h)))) : zW (d + 1) m_BL_isImage e 0 [Value.int p0] [] h Q := zWg_run (C := zc_BL_isImage) (B := (0, 0)) rfl rfl [] 8 0 _ _ _ K
set_option maxRecDepth 100000 in
theorem b_BL_isSheet_0 {d : Nat} {e : Nat × Nat} {h : zH} {Q : zQ} {p0 : Int32} (K : (if p0 < 0 then (((0 : Int32) = 0 ∨ (0 : Int32) = 1) ∧ Q (some (Value.int (0 : Int32))) h) else (if (4 : Int32) ≤ p0 then (((0 : Int32) = 0 ∨ (0 : Int32) = 1) ∧ Q (some (Value.int (0 : Int32))) h) else (((1 : Int32) = 0 ∨ (1 : Int32) = 1) ∧ Q (some (Value.int (1 : Int32))) h)))) : zW (d + 1) m_BL_isSheet e 0 [Value.int p0] [] h Q := zWg_run (C := zc_BL_isSheet) (B := (0, 0)) rfl rfl [] 8 0 _ _ _ K
set_option maxRecDepth 100000 in
theorem b_BL_isLane_0 {d : Nat} {e : Nat × Nat} {h : zH} {Q : zQ} {p0 : Int32} (K : (if p0 < 0 then (((0 : Int32) = 0 ∨ (0 : Int32) = 1) ∧ Q (some (Value.int (0 : Int32))) h) else (if (3 : Int32) ≤ p0 then (((0 : Int32) = 0 ∨ (0 : Int32) = 1) ∧ Q (some (Value.int (0 : Int32))) h) else (((1 : Int32) = 0 ∨ (1 : Int32) = 1) ∧ Q (some (Value.int (1 : Int32))) h)))) : zW (d + 1) m_BL_isLane e 0 [Value.int p0] [] h Q := zWg_run (C := zc_BL_isLane) (B := (0, 0)) rfl rfl [] 8 0 _ _ _ K
end
section
set_option maxRecDepth 100000 in
theorem b_Mo_init_0 {d : Nat} {e : Nat × Nat} {h : zH} {Q : zQ} {p0 : Nat} (K : (¬ (115 : Int32) < 0 ∧ (115 : Int32).toNatClampNeg ≤ 65536 ∧ h.1.1 + 1 ≤ e.1 + 16 ∧ h.1.2 + (115 : Int32).toNatClampNeg ≤ e.2 + 1078) ∧ ∀ h1, h1 = zNew h (115 : Int32).toNatClampNeg (zI 0 (115 : Int32).toNatClampNeg (fun _ => 0)) → ((∃ F2, h1.2 p0 = zO 10 F2 ∧ ∀ h3, h3 = zP h1 p0 (zO 10 (zU F2 0 (Value.ref (8 + h.1.1)))) → ((¬ (115 : Int32) < 0 ∧ (115 : Int32).toNatClampNeg ≤ 65536 ∧ h3.1.1 + 1 ≤ e.1 + 16 ∧ h3.1.2 + (115 : Int32).toNatClampNeg ≤ e.2 + 1078) ∧ ∀ h4, h4 = zNew h3 (115 : Int32).toNatClampNeg (zI 0 (115 : Int32).toNatClampNeg (fun _ => 0)) → ((∃ F5, h4.2 p0 = zO 10 F5 ∧ ∀ h6, h6 = zP h4 p0 (zO 10 (zU F5 1 (Value.ref (8 + h3.1.1)))) → ((¬ (230 : Int32) < 0 ∧ (230 : Int32).toNatClampNeg ≤ 65536 ∧ h6.1.1 + 1 ≤ e.1 + 16 ∧ h6.1.2 + (230 : Int32).toNatClampNeg ≤ e.2 + 1078) ∧ ∀ h7, h7 = zNew h6 (230 : Int32).toNatClampNeg (zI 0 (230 : Int32).toNatClampNeg (fun _ => 0)) → ((∃ F8, h7.2 p0 = zO 10 F8 ∧ ∀ h9, h9 = zP h7 p0 (zO 10 (zU F8 2 (Value.ref (8 + h6.1.1)))) → (zW (d + 1) m_Mo_init e 29 [Value.ref p0, zD] [] h9 Q)))))))))) : zW (d + 1) m_Mo_init e 0 [Value.ref p0, zD] [] h Q := zWg_run (C := zc_Mo_init) (B := (16, 1078)) rfl rfl [29, 101, 162] 14 0 _ _ _ K
set_option maxRecDepth 100000 in
theorem b_Mo_init_29 {d : Nat} {e : Nat × Nat} {h : zH} {Q : zQ} {p0 : Nat} (K : (¬ (2 : Int32) < 0 ∧ (2 : Int32).toNatClampNeg ≤ 65536 ∧ h.1.1 + 1 ≤ e.1 + 16 ∧ h.1.2 + (2 : Int32).toNatClampNeg ≤ e.2 + 1078) ∧ ∀ h1, h1 = zNew h (2 : Int32).toNatClampNeg (zI 1 (2 : Int32).toNatClampNeg (fun _ => 0)) → ((∃ F2, h1.2 p0 = zO 10 F2 ∧ ∀ h3, h3 = zP h1 p0 (zO 10 (zU F2 3 (Value.ref (8 + h.1.1)))) → ((¬ (300 : Int32) < 0 ∧ (300 : Int32).toNatClampNeg ≤ 65536 ∧ h3.1.1 + 1 ≤ e.1 + 16 ∧ h3.1.2 + (300 : Int32).toNatClampNeg ≤ e.2 + 1078) ∧ ∀ h4, h4 = zNew h3 (300 : Int32).toNatClampNeg (zI 0 (300 : Int32).toNatClampNeg (fun _ => 0)) → ((∃ F5, h4.2 p0 = zO 10 F5 ∧ ∀ h6, h6 = zP h4 p0 (zO 10 (zU F5 4 (Value.ref (8 + h3.1.1)))) → ((¬ (16 : Int32) < 0 ∧ (16 : Int32).toNatClampNeg ≤ 65536 ∧ h6.1.1 + 1 ≤ e.1 + 16 ∧ h6.1.2 + (16 : Int32).toNatClampNeg ≤ e.2 + 1078) ∧ ∀ h7, h7 = zNew h6 (16 : Int32).toNatClampNeg (zI 1 (16 : Int32).toNatClampNeg (fun _ => 0)) → ((∃ F8, h7.2 p0 = zO 10 F8 ∧ ∀ h9, h9 = zP h7 p0 (zO 10 (zU F8 22 (Value.ref (8 + h6.1.1)))) → ((¬ (16 : Int32) < 0 ∧ (16 : Int32).toNatClampNeg ≤ 65536 ∧ h9.1.1 + 1 ≤ e.1 + 16 ∧ h9.1.2 + (16 : Int32).toNatClampNeg ≤ e.2 + 1078) ∧ ∀ h10, h10 = zNew h9 (16 : Int32).toNatClampNeg (zI 0 (16 : Int32).toNatClampNeg (fun _ => 0)) → ((∃ F11, h10.2 p0 = zO 10 F11 ∧ ∀ h12, h12 = zP h10 p0 (zO 10 (zU F11 23 (Value.ref (8 + h9.1.1)))) → ((¬ (49 : Int32) < 0 ∧ (49 : Int32).toNatClampNeg ≤ 65536 ∧ h12.1.1 + 1 ≤ e.1 + 16 ∧ h12.1.2 + (49 : Int32).toNatClampNeg ≤ e.2 + 1078) ∧ ∀ h13, h13 = zNew h12 (49 : Int32).toNatClampNeg (zI 0 (49 : Int32).toNatClampNeg (fun _ => 0)) → ((∃ F14, h13.2 p0 = zO 10 F14 ∧ ∀ h15, h15 = zP h13 p0 (zO 10 (zU F14 25 (Value.ref (8 + h12.1.1)))) → ((¬ (7 : Int32) < 0 ∧ (7 : Int32).toNatClampNeg ≤ 65536 ∧ h15.1.1 + 1 ≤ e.1 + 16 ∧ h15.1.2 + (7 : Int32).toNatClampNeg ≤ e.2 + 1078) ∧ ∀ h16, h16 = zNew h15 (7 : Int32).toNatClampNeg (zI 0 (7 : Int32).toNatClampNeg (fun _ => 0)) → ((∃ F17, h16.2 p0 = zO 10 F17 ∧ ∀ h18, h18 = zP h16 p0 (zO 10 (zU F17 26 (Value.ref (8 + h15.1.1)))) → ((¬ (7 : Int32) < 0 ∧ (7 : Int32).toNatClampNeg ≤ 65536 ∧ h18.1.1 + 1 ≤ e.1 + 16 ∧ h18.1.2 + (7 : Int32).toNatClampNeg ≤ e.2 + 1078) ∧ ∀ h19, h19 = zNew h18 (7 : Int32).toNatClampNeg (zI 0 (7 : Int32).toNatClampNeg (fun _ => 0)) → ((∃ F20, h19.2 p0 = zO 10 F20 ∧ ∀ h21, h21 = zP h19 p0 (zO 10 (zU F20 27 (Value.ref (8 + h18.1.1)))) → ((¬ (7 : Int32) < 0 ∧ (7 : Int32).toNatClampNeg ≤ 65536 ∧ h21.1.1 + 1 ≤ e.1 + 16 ∧ h21.1.2 + (7 : Int32).toNatClampNeg ≤ e.2 + 1078) ∧ ∀ h22, h22 = zNew h21 (7 : Int32).toNatClampNeg (zI 0 (7 : Int32).toNatClampNeg (fun _ => 0)) → ((∃ F23, h22.2 p0 = zO 10 F23 ∧ ∀ h24, h24 = zP h22 p0 (zO 10 (zU F23 28 (Value.ref (8 + h21.1.1)))) → ((¬ (7 : Int32) < 0 ∧ (7 : Int32).toNatClampNeg ≤ 65536 ∧ h24.1.1 + 1 ≤ e.1 + 16 ∧ h24.1.2 + (7 : Int32).toNatClampNeg ≤ e.2 + 1078) ∧ ∀ h25, h25 = zNew h24 (7 : Int32).toNatClampNeg (zI 0 (7 : Int32).toNatClampNeg (fun _ => 0)) → ((∃ F26, h25.2 p0 = zO 10 F26 ∧ ∀ h27, h27 = zP h25 p0 (zO 10 (zU F26 34 (Value.ref (8 + h24.1.1)))) → (zW (d + 1) m_Mo_init e 101 [Value.ref p0, zD] [] h27 Q)))))))))))))))))))))))))))) : zW (d + 1) m_Mo_init e 29 [Value.ref p0, zD] [] h Q := zWg_run (C := zc_Mo_init) (B := (16, 1078)) rfl rfl [29, 101, 162] 36 29 _ _ _ K
set_option maxRecDepth 100000 in
theorem b_Mo_init_101 {d : Nat} {e : Nat × Nat} {h : zH} {Q : zQ} {p0 : Nat} (K : (¬ (7 : Int32) < 0 ∧ (7 : Int32).toNatClampNeg ≤ 65536 ∧ h.1.1 + 1 ≤ e.1 + 16 ∧ h.1.2 + (7 : Int32).toNatClampNeg ≤ e.2 + 1078) ∧ ∀ h1, h1 = zNew h (7 : Int32).toNatClampNeg (zI 0 (7 : Int32).toNatClampNeg (fun _ => 0)) → ((∃ F2, h1.2 p0 = zO 10 F2 ∧ ∀ h3, h3 = zP h1 p0 (zO 10 (zU F2 35 (Value.ref (8 + h.1.1)))) → ((¬ (4 : Int32) < 0 ∧ (4 : Int32).toNatClampNeg ≤ 65536 ∧ h3.1.1 + 1 ≤ e.1 + 16 ∧ h3.1.2 + (4 : Int32).toNatClampNeg ≤ e.2 + 1078) ∧ ∀ h4, h4 = zNew h3 (4 : Int32).toNatClampNeg (zI 0 (4 : Int32).toNatClampNeg (fun _ => 0)) → ((∃ F5, h4.2 p0 = zO 10 F5 ∧ ∀ h6, h6 = zP h4 p0 (zO 10 (zU F5 36 (Value.ref (8 + h3.1.1)))) → ((¬ (4 : Int32) < 0 ∧ (4 : Int32).toNatClampNeg ≤ 65536 ∧ h6.1.1 + 1 ≤ e.1 + 16 ∧ h6.1.2 + (4 : Int32).toNatClampNeg ≤ e.2 + 1078) ∧ ∀ h7, h7 = zNew h6 (4 : Int32).toNatClampNeg (zI 0 (4 : Int32).toNatClampNeg (fun _ => 0)) → ((∃ F8, h7.2 p0 = zO 10 F8 ∧ ∀ h9, h9 = zP h7 p0 (zO 10 (zU F8 37 (Value.ref (8 + h6.1.1)))) → ((¬ (192 : Int32) < 0 ∧ (192 : Int32).toNatClampNeg ≤ 65536 ∧ h9.1.1 + 1 ≤ e.1 + 16 ∧ h9.1.2 + (192 : Int32).toNatClampNeg ≤ e.2 + 1078) ∧ ∀ h10, h10 = zNew h9 (192 : Int32).toNatClampNeg (zI 0 (192 : Int32).toNatClampNeg (fun _ => 0)) → ((∃ F11, h10.2 p0 = zO 10 F11 ∧ ∀ h12, h12 = zP h10 p0 (zO 10 (zU F11 38 (Value.ref (8 + h9.1.1)))) → (∃ F13, h12.2 p0 = zO 10 F13 ∧ ∃ x14, F13 0 = Value.ref x14 ∧ ((∃ n15 f16, h12.2 x14 = zI 0 n15 f16 ∧ zIn (0 : Int32) n15 ∧ ∀ h17, h17 = zP h12 x14 (zI 0 n15 (zU f16 (0 : Int32).toNatClampNeg (1 : Int32))) → (∃ F18, h17.2 p0 = zO 10 F18 ∧ ∃ x19, F18 0 = Value.ref x19 ∧ ((∃ n20 f21, h17.2 x19 = zI 0 n20 f21 ∧ zIn (1 : Int32) n20 ∧ ∀ h22, h22 = zP h17 x19 (zI 0 n20 (zU f21 (1 : Int32).toNatClampNeg (2 : Int32))) → (∃ F23, h22.2 p0 = zO 10 F23 ∧ ∃ x24, F23 0 = Value.ref x24 ∧ ((∃ n25 f26, h22.2 x24 = zI 0 n25 f26 ∧ zIn (2 : Int32) n25 ∧ ∀ h27, h27 = zP h22 x24 (zI 0 n25 (zU f26 (2 : Int32).toNatClampNeg (3 : Int32))) → (∃ F28, h27.2 p0 = zO 10 F28 ∧ ∃ x29, F28 0 = Value.ref x29 ∧ (zW d m_Mo_empties h27.1 0 [Value.ref x29, zD] [] h27 (fun r30 h31 => r30 = none ∧ (zW (d + 1) m_Mo_init e 162 [Value.ref p0, Value.int (0 : Int32)] [] h31 Q))))))))))))))))))))))))) : zW (d + 1) m_Mo_init e 101 [Value.ref p0, zD] [] h Q := zWg_run (C := zc_Mo_init) (B := (16, 1078)) rfl rfl [29, 101, 162] 36 101 _ _ _ K
set_option maxRecDepth 100000 in
theorem b_Mo_init_162 {d : Nat} {e : Nat × Nat} {h : zH} {Q : zQ} {p0 : Nat} {p1 : Int32} (K : (if (4 : Int32) ≤ p1 then (h.1 = (e.1 + 16, e.2 + 1078) ∧ Q none h) else ∃ F1, h.2 p0 = zO 10 F1 ∧ ∃ x2, F1 36 = Value.ref x2 ∧ ((∃ n3 f4, h.2 x2 = zI 0 n3 f4 ∧ zIn p1 n3 ∧ ∀ h5, h5 = zP h x2 (zI 0 n3 (zU f4 p1.toNatClampNeg (-4 : Int32))) → (zW (d + 1) m_Mo_init e 162 [Value.ref p0, Value.int (p1 + 1)] [] h5 Q))))) : zW (d + 1) m_Mo_init e 162 [Value.ref p0, Value.int p1] [] h Q := zWg_run (C := zc_Mo_init) (B := (16, 1078)) rfl rfl [29, 101, 162] 10 162 _ _ _ K
set_option maxRecDepth 100000 in
theorem b_Mo_in_0 {d : Nat} {e : Nat × Nat} {h : zH} {Q : zQ} {p0 : Int64} {p2 : Int64} {p4 : Int64} (K : (if (lg_cmp p0 p2) < 0 then (((0 : Int32) = 0 ∨ (0 : Int32) = 1) ∧ Q (some (Value.int (0 : Int32))) h) else (if 0 < (lg_cmp p0 p4) then (((0 : Int32) = 0 ∨ (0 : Int32) = 1) ∧ Q (some (Value.int (0 : Int32))) h) else (((1 : Int32) = 0 ∨ (1 : Int32) = 1) ∧ Q (some (Value.int (1 : Int32))) h)))) : zW (d + 1) m_Mo_in e 0 [Value.long p0, zD, Value.long p2, zD, Value.long p4, zD] [] h Q := zWg_run (C := zc_Mo_in) (B := (0, 0)) rfl rfl [] 11 0 _ _ _ K
set_option maxRecDepth 100000 in
theorem b_Mo_flag_0 {d : Nat} {e : Nat × Nat} {h : zH} {Q : zQ} {p0 : Int32} (K : (if p0 = 0 then Q (some (Value.int (0 : Int32))) h else Q (some (Value.int (1 : Int32))) h)) : zW (d + 1) m_Mo_flag e 0 [Value.int p0] [] h Q := zWg_run (C := zc_Mo_flag) (B := (0, 0)) rfl rfl [] 5 0 _ _ _ K
set_option maxRecDepth 100000 in
theorem b_Mo_empties_0 {d : Nat} {e : Nat × Nat} {h : zH} {Q : zQ} {p0 : Nat} (K : zW (d + 1) m_Mo_empties e 2 [Value.ref p0, Value.int (3 : Int32)] [] h Q) : zW (d + 1) m_Mo_empties e 0 [Value.ref p0, zD] [] h Q := zWg_run (C := zc_Mo_empties) (B := (0, 0)) rfl rfl [2] 2 0 _ _ _ K
set_option maxRecDepth 100000 in
theorem b_Mo_empties_2 {d : Nat} {e : Nat × Nat} {h : zH} {Q : zQ} {p0 : Nat} {p1 : Int32} (K : (if (115 : Int32) ≤ p1 then Q none h else (∃ n1 f2, h.2 p0 = zI 0 n1 f2 ∧ zIn p1 n1 ∧ ∀ h3, h3 = zP h p0 (zI 0 n1 (zU f2 p1.toNatClampNeg (-4 : Int32))) → (zW (d + 1) m_Mo_empties e 2 [Value.ref p0, Value.int (p1 + 1)] [] h3 Q)))) : zW (d + 1) m_Mo_empties e 2 [Value.ref p0, Value.int p1] [] h Q := zWg_run (C := zc_Mo_empties) (B := (0, 0)) rfl rfl [2] 9 2 _ _ _ K
set_option maxRecDepth 100000 in
theorem b_Mo_at_0 {d : Nat} {e : Nat × Nat} {h : zH} {Q : zQ} {p0 : Int32} {p1 : Int32} (K : Q (some (Value.int (((3 : Int32) + ((16 : Int32) * p1)) + p0))) h) : zW (d + 1) m_Mo_at e 0 [Value.int p0, Value.int p1] [] h Q := zWg_run (C := zc_Mo_at) (B := (0, 0)) rfl rfl [] 8 0 _ _ _ K
set_option maxRecDepth 100000 in
theorem b_Mo_feed_0 {d : Nat} {e : Nat × Nat} {h : zH} {Q : zQ} {p0 : Nat} {p1 : Int32} (K : zW d m_Mo_in h.1 0 [Value.long p1.toInt64, zD, Value.long (0 : Int64), zD, Value.long (127 : Int64), zD] [] h (fun r1 h2 => ∃ x3, r1 = some (Value.int x3) ∧ ((if x3 = 0 then Q (some (Value.int (-1 : Int32))) h2 else ∃ F4, h2.2 p0 = zO 10 F4 ∧ ∃ x5, F4 5 = Value.int x5 ∧ ((if x5 = (300 : Int32) then Q (some (Value.int (-3 : Int32))) h2 else ∃ F6, h2.2 p0 = zO 10 F6 ∧ ∃ x7, F6 4 = Value.ref x7 ∧ (∃ F8, h2.2 p0 = zO 10 F8 ∧ ∃ x9, F8 5 = Value.int x9 ∧ ((∃ n10 f11, h2.2 x7 = zI 0 n10 f11 ∧ zIn x9 n10 ∧ ∀ h12, h12 = zP h2 x7 (zI 0 n10 (zU f11 x9.toNatClampNeg p1)) → (∃ F13, h12.2 p0 = zO 10 F13 ∧ ∃ x14, F13 5 = Value.int x14 ∧ ((∃ F15, h12.2 p0 = zO 10 F15 ∧ ∀ h16, h16 = zP h12 p0 (zO 10 (zU F15 5 (Value.int (x14 + (1 : Int32))))) → (∃ F17, h16.2 p0 = zO 10 F17 ∧ ∃ x18, F17 5 = Value.int x18 ∧ (Q (some (Value.int x18)) h16)))))))))))))) : zW (d + 1) m_Mo_feed e 0 [Value.ref p0, Value.int p1] [] h Q := zWg_run (C := zc_Mo_feed) (B := (0, 0)) rfl rfl [] 25 0 _ _ _ K
set_option maxRecDepth 100000 in
theorem b_Mo_end_0 {d : Nat} {e : Nat × Nat} {h : zH} {Q : zQ} {p0 : Nat} {p1 : Int32} (K : ∃ F1, h.2 p0 = zO 10 F1 ∧ ∃ x2, F1 5 = Value.int x2 ∧ (zW d m_Mo_in h.1 0 [Value.long p1.toInt64, zD, Value.long (0 : Int64), zD, Value.long x2.toInt64, zD] [] h (fun r3 h4 => ∃ x5, r3 = some (Value.int x5) ∧ ((if x5 = 0 then Q (some (Value.int (-1 : Int32))) h4 else ∃ F6, h4.2 p0 = zO 10 F6 ∧ ∃ x7, F6 5 = Value.int x7 ∧ ((∃ F8, h4.2 p0 = zO 10 F8 ∧ ∀ h9, h9 = zP h4 p0 (zO 10 (zU F8 5 (Value.int p1))) → (Q (some (Value.int x7)) h9)))))))) : zW (d + 1) m_Mo_end e 0 [Value.ref p0, Value.int p1, zD] [] h Q := zWg_run (C := zc_Mo_end) (B := (0, 0)) rfl rfl [] 16 0 _ _ _ K
set_option maxRecDepth 100000 in
theorem b_Mo_requires_0 {d : Nat} {e : Nat × Nat} {h : zH} {Q : zQ} {p0 : Nat} {p1 : Int32} {p2 : Int32} (K : (if p1 = 0 then ∃ F1, h.2 p0 = zO 10 F1 ∧ ∃ x2, F1 10 = Value.int x2 ∧ ((if x2 = 0 then (∃ F3, h.2 p0 = zO 10 F3 ∧ ∀ h4, h4 = zP h p0 (zO 10 (zU F3 10 (Value.int p2))) → (∃ F5, h4.2 p0 = zO 10 F5 ∧ ∃ x6, F5 7 = Value.int x6 ∧ ((∃ F7, h4.2 p0 = zO 10 F7 ∧ ∀ h8, h8 = zP h4 p0 (zO 10 (zU F7 11 (Value.int x6))) → (Q none h8))))) else Q none h)) else Q none h)) : zW (d + 1) m_Mo_requires e 0 [Value.ref p0, Value.int p1, Value.int p2] [] h Q := zWg_run (C := zc_Mo_requires) (B := (0, 0)) rfl rfl [] 13 0 _ _ _ K
set_option maxRecDepth 100000 in
theorem b_Mo_byteAt_0 {d : Nat} {e : Nat × Nat} {h : zH} {Q : zQ} {p0 : Nat} {p1 : Int32} (K : ∃ F1, h.2 p0 = zO 10 F1 ∧ ∃ x2, F1 5 = Value.int x2 ∧ ((if x2 ≤ p1 then Q (some (Value.int (-1 : Int32))) h else ∃ F3, h.2 p0 = zO 10 F3 ∧ ∃ x4, F3 4 = Value.ref x4 ∧ (∃ n5 f6, h.2 x4 = zI 0 n5 f6 ∧ zIn p1 n5 ∧ (Q (some (Value.int (f6 p1.toNatClampNeg))) h))))) : zW (d + 1) m_Mo_byteAt e 0 [Value.ref p0, Value.int p1] [] h Q := zWg_run (C := zc_Mo_byteAt) (B := (0, 0)) rfl rfl [] 10 0 _ _ _ K
set_option maxRecDepth 100000 in
theorem b_Mo_is_0 {d : Nat} {e : Nat × Nat} {h : zH} {Q : zQ} {p0 : Nat} {p1 : Int32} {p2 : Int32} {p3 : Int32} {p4 : Int32} (K : ∃ F1, h.2 p0 = zO 10 F1 ∧ ∃ x2, F1 8 = Value.int x2 ∧ ((if x2 = (1 : Int32) then ∃ F3, h.2 p0 = zO 10 F3 ∧ ∃ x4, F3 6 = Value.int x4 ∧ (∃ F5, h.2 p0 = zO 10 F5 ∧ ∃ x6, F5 7 = Value.int x6 ∧ ((if (x4 - x6) = p1 then ∃ F7, h.2 p0 = zO 10 F7 ∧ ∃ x8, F7 7 = Value.int x8 ∧ ((∃ F18, h.2 p0 = zO 10 F18) ∧ zW d m_Mo_byteAt h.1 0 [Value.ref p0, Value.int (x8 + p2)] [] h (fun r9 h10 => ∃ x11, r9 = some (Value.int x11) ∧ ((if x11 = p3 then ∃ F12, h10.2 p0 = zO 10 F12 ∧ ∃ x13, F12 7 = Value.int x13 ∧ ((∃ F17, h10.2 p0 = zO 10 F17) ∧ zW d m_Mo_byteAt h10.1 0 [Value.ref p0, Value.int ((x13 + p2) + (1 : Int32))] [] h10 (fun r14 h15 => ∃ x16, r14 = some (Value.int x16) ∧ ((if x16 = p4 then (((1 : Int32) = 0 ∨ (1 : Int32) = 1) ∧ Q (some (Value.int (1 : Int32))) h15) else (((0 : Int32) = 0 ∨ (0 : Int32) = 1) ∧ Q (some (Value.int (0 : Int32))) h15))))) else (((0 : Int32) = 0 ∨ (0 : Int32) = 1) ∧ Q (some (Value.int (0 : Int32))) h10))))) else (((0 : Int32) = 0 ∨ (0 : Int32) = 1) ∧ Q (some (Value.int (0 : Int32))) h)))) else (((0 : Int32) = 0 ∨ (0 : Int32) = 1) ∧ Q (some (Value.int (0 : Int32))) h)))) : zW (d + 1) m_Mo_is e 0 [Value.ref p0, Value.int p1, Value.int p2, Value.int p3, Value.int p4] [] h Q := zWg_run (C := zc_Mo_is) (B := (0, 0)) rfl rfl [] 32 0 _ _ _ K
set_option maxRecDepth 100000 in
theorem b_Mo_lineNow_0 {d : Nat} {e : Nat × Nat} {h : zH} {Q : zQ} {p0 : Nat} (K : (∃ F12, h.2 p0 = zO 10 F12) ∧ zW d m_Mo_is h.1 0 [Value.ref p0, Value.int (6 : Int32), Value.int (0 : Int32), Value.int (99 : Int32), Value.int (108 : Int32)] [] h (fun r1 h2 => ∃ x3, r1 = some (Value.int x3) ∧ ((if x3 = 0 then zW (d + 1) m_Mo_lineNow e 44 [Value.ref p0] [] h2 Q else (∃ F11, h2.2 p0 = zO 10 F11) ∧ zW d m_Mo_is h2.1 0 [Value.ref p0, Value.int (6 : Int32), Value.int (2 : Int32), Value.int (111 : Int32), Value.int (99 : Int32)] [] h2 (fun r4 h5 => ∃ x6, r4 = some (Value.int x6) ∧ ((if x6 = 0 then zW (d + 1) m_Mo_lineNow e 44 [Value.ref p0] [] h5 Q else (∃ F10, h5.2 p0 = zO 10 F10) ∧ zW d m_Mo_is h5.1 0 [Value.ref p0, Value.int (6 : Int32), Value.int (4 : Int32), Value.int (107 : Int32), Value.int (115 : Int32)] [] h5 (fun r7 h8 => ∃ x9, r7 = some (Value.int x9) ∧ ((if x9 = 0 then zW (d + 1) m_Mo_lineNow e 44 [Value.ref p0] [] h8 Q else Q (some (Value.int (0 : Int32))) h8)))))))))) : zW (d + 1) m_Mo_lineNow e 0 [Value.ref p0] [] h Q := zWg_run (C := zc_Mo_lineNow) (B := (0, 0)) rfl rfl [44, 72, 113] 23 0 _ _ _ K
set_option maxRecDepth 100000 in
theorem b_Mo_lineNow_44 {d : Nat} {e : Nat × Nat} {h : zH} {Q : zQ} {p0 : Nat} (K : (∃ F8, h.2 p0 = zO 10 F8) ∧ zW d m_Mo_is h.1 0 [Value.ref p0, Value.int (4 : Int32), Value.int (0 : Int32), Value.int (104 : Int32), Value.int (101 : Int32)] [] h (fun r1 h2 => ∃ x3, r1 = some (Value.int x3) ∧ ((if x3 = 0 then zW (d + 1) m_Mo_lineNow e 72 [Value.ref p0] [] h2 Q else (∃ F7, h2.2 p0 = zO 10 F7) ∧ zW d m_Mo_is h2.1 0 [Value.ref p0, Value.int (4 : Int32), Value.int (2 : Int32), Value.int (97 : Int32), Value.int (114 : Int32)] [] h2 (fun r4 h5 => ∃ x6, r4 = some (Value.int x6) ∧ ((if x6 = 0 then zW (d + 1) m_Mo_lineNow e 72 [Value.ref p0] [] h5 Q else Q (some (Value.int (1 : Int32))) h5))))))) : zW (d + 1) m_Mo_lineNow e 44 [Value.ref p0] [] h Q := zWg_run (C := zc_Mo_lineNow) (B := (0, 0)) rfl rfl [44, 72, 113] 16 44 _ _ _ K
set_option maxRecDepth 100000 in
theorem b_Mo_lineNow_72 {d : Nat} {e : Nat × Nat} {h : zH} {Q : zQ} {p0 : Nat} (K : (∃ F12, h.2 p0 = zO 10 F12) ∧ zW d m_Mo_is h.1 0 [Value.ref p0, Value.int (5 : Int32), Value.int (0 : Int32), Value.int (108 : Int32), Value.int (105 : Int32)] [] h (fun r1 h2 => ∃ x3, r1 = some (Value.int x3) ∧ ((if x3 = 0 then zW (d + 1) m_Mo_lineNow e 113 [Value.ref p0] [] h2 Q else (∃ F11, h2.2 p0 = zO 10 F11) ∧ zW d m_Mo_is h2.1 0 [Value.ref p0, Value.int (5 : Int32), Value.int (2 : Int32), Value.int (109 : Int32), Value.int (105 : Int32)] [] h2 (fun r4 h5 => ∃ x6, r4 = some (Value.int x6) ∧ ((if x6 = 0 then zW (d + 1) m_Mo_lineNow e 113 [Value.ref p0] [] h5 Q else (∃ F10, h5.2 p0 = zO 10 F10) ∧ zW d m_Mo_is h5.1 0 [Value.ref p0, Value.int (5 : Int32), Value.int (3 : Int32), Value.int (105 : Int32), Value.int (116 : Int32)] [] h5 (fun r7 h8 => ∃ x9, r7 = some (Value.int x9) ∧ ((if x9 = 0 then zW (d + 1) m_Mo_lineNow e 113 [Value.ref p0] [] h8 Q else Q (some (Value.int (2 : Int32))) h8)))))))))) : zW (d + 1) m_Mo_lineNow e 72 [Value.ref p0] [] h Q := zWg_run (C := zc_Mo_lineNow) (B := (0, 0)) rfl rfl [44, 72, 113] 23 72 _ _ _ K
set_option maxRecDepth 100000 in
theorem b_Mo_lineNow_113 {d : Nat} {e : Nat × Nat} {h : zH} {Q : zQ} {p0 : Nat} (K : (∃ F12, h.2 p0 = zO 10 F12) ∧ zW d m_Mo_is h.1 0 [Value.ref p0, Value.int (5 : Int32), Value.int (0 : Int32), Value.int (108 : Int32), Value.int (101 : Int32)] [] h (fun r1 h2 => ∃ x3, r1 = some (Value.int x3) ∧ ((if x3 = 0 then Q (some (Value.int (-4 : Int32))) h2 else (∃ F11, h2.2 p0 = zO 10 F11) ∧ zW d m_Mo_is h2.1 0 [Value.ref p0, Value.int (5 : Int32), Value.int (2 : Int32), Value.int (97 : Int32), Value.int (115 : Int32)] [] h2 (fun r4 h5 => ∃ x6, r4 = some (Value.int x6) ∧ ((if x6 = 0 then Q (some (Value.int (-4 : Int32))) h5 else (∃ F10, h5.2 p0 = zO 10 F10) ∧ zW d m_Mo_is h5.1 0 [Value.ref p0, Value.int (5 : Int32), Value.int (3 : Int32), Value.int (115 : Int32), Value.int (116 : Int32)] [] h5 (fun r7 h8 => ∃ x9, r7 = some (Value.int x9) ∧ ((if x9 = 0 then Q (some (Value.int (-4 : Int32))) h8 else Q (some (Value.int (3 : Int32))) h8)))))))))) : zW (d + 1) m_Mo_lineNow e 113 [Value.ref p0] [] h Q := zWg_run (C := zc_Mo_lineNow) (B := (0, 0)) rfl rfl [44, 72, 113] 24 113 _ _ _ K
set_option maxRecDepth 100000 in
theorem b_Mo_reads_0 {d : Nat} {e : Nat × Nat} {h : zH} {Q : zQ} {p0 : Nat} (K : ∃ F1, h.2 p0 = zO 10 F1 ∧ ∃ x2, F1 10 = Value.int x2 ∧ ((if x2 ≤ 0 then zW (d + 1) m_Mo_reads e 8 [Value.ref p0, zD] [] h Q else Q none h))) : zW (d + 1) m_Mo_reads e 0 [Value.ref p0, zD] [] h Q := zWg_run (C := zc_Mo_reads) (B := (0, 0)) rfl rfl [8, 42, 82, 140] 4 0 _ _ _ K
set_option maxRecDepth 100000 in
theorem b_Mo_reads_8 {d : Nat} {e : Nat × Nat} {h : zH} {Q : zQ} {p0 : Nat} (K : ∃ F1, h.2 p0 = zO 10 F1 ∧ ∃ x2, F1 6 = Value.int x2 ∧ ((∃ F14, h.2 p0 = zO 10 F14) ∧ zW d m_Mo_byteAt h.1 0 [Value.ref p0, Value.int x2] [] h (fun r3 h4 => ∃ x5, r3 = some (Value.int x5) ∧ ((if x5 = (32 : Int32) then ∃ F6, h4.2 p0 = zO 10 F6 ∧ ∃ x7, F6 6 = Value.int x7 ∧ ((∃ F8, h4.2 p0 = zO 10 F8 ∧ ∀ h9, h9 = zP h4 p0 (zO 10 (zU F8 6 (Value.int (x7 + (1 : Int32))))) → (zW (d + 1) m_Mo_reads e 8 [Value.ref p0, zD] [] h9 Q))) else ∃ F10, h4.2 p0 = zO 10 F10 ∧ ∃ x11, F10 6 = Value.int x11 ∧ ((∃ F12, h4.2 p0 = zO 10 F12 ∧ ∀ h13, h13 = zP h4 p0 (zO 10 (zU F12 7 (Value.int x11))) → (zW (d + 1) m_Mo_reads e 42 [Value.ref p0, zD] [] h13 Q)))))))) : zW (d + 1) m_Mo_reads e 8 [Value.ref p0, zD] [] h Q := zWg_run (C := zc_Mo_reads) (B := (0, 0)) rfl rfl [8, 42, 82, 140] 13 8 _ _ _ K
set_option maxRecDepth 100000 in
theorem b_Mo_reads_42 {d : Nat} {e : Nat × Nat} {h : zH} {Q : zQ} {p0 : Nat} (K : ∃ F1, h.2 p0 = zO 10 F1 ∧ ∃ x2, F1 6 = Value.int x2 ∧ ((∃ F36, h.2 p0 = zO 10 F36) ∧ zW d m_Mo_byteAt h.1 0 [Value.ref p0, Value.int x2] [] h (fun r3 h4 => ∃ x5, r3 = some (Value.int x5) ∧ ((if 0 ≤ x5 then zW d m_Mo_in h4.1 0 [Value.long x5.toInt64, zD, Value.long (97 : Int64), zD, Value.long (122 : Int64), zD] [] h4 (fun r6 h7 => ∃ x8, r6 = some (Value.int x8) ∧ ((if x8 = 0 then zW d m_Mo_in h7.1 0 [Value.long x5.toInt64, zD, Value.long (48 : Int64), zD, Value.long (57 : Int64), zD] [] h7 (fun r9 h10 => ∃ x11, r9 = some (Value.int x11) ∧ ((if x11 = 0 then (∃ F12, h10.2 p0 = zO 10 F12 ∧ ∀ h13, h13 = zP h10 p0 (zO 10 (zU F12 8 (Value.int (3 : Int32)))) → ((if x5 = (59 : Int32) then (∃ F20, h13.2 p0 = zO 10 F20) ∧ zW d m_Mo_requires h13.1 0 [Value.ref p0, Value.int (1 : Int32), Value.int (1 : Int32)] [] h13 (fun r14 h15 => r14 = none ∧ (∃ F16, h15.2 p0 = zO 10 F16 ∧ ∃ x17, F16 6 = Value.int x17 ∧ ((∃ F18, h15.2 p0 = zO 10 F18 ∧ ∀ h19, h19 = zP h15 p0 (zO 10 (zU F18 6 (Value.int (x17 + (1 : Int32))))) → (Q none h19))))) else (∃ F27, h13.2 p0 = zO 10 F27) ∧ zW d m_Mo_requires h13.1 0 [Value.ref p0, Value.int (0 : Int32), Value.int (1 : Int32)] [] h13 (fun r21 h22 => r21 = none ∧ (∃ F23, h22.2 p0 = zO 10 F23 ∧ ∃ x24, F23 6 = Value.int x24 ∧ ((∃ F25, h22.2 p0 = zO 10 F25 ∧ ∀ h26, h26 = zP h22 p0 (zO 10 (zU F25 6 (Value.int (x24 + (1 : Int32))))) → (Q none h26)))))))) else (∃ F28, h10.2 p0 = zO 10 F28 ∧ ∀ h29, h29 = zP h10 p0 (zO 10 (zU F28 8 (Value.int (2 : Int32)))) → ((∃ F30, h29.2 p0 = zO 10 F30 ∧ ∀ h31, h31 = zP h29 p0 (zO 10 (zU F30 9 (Value.int (0 : Int32)))) → (zW (d + 1) m_Mo_reads e 140 [Value.ref p0, zD] [] h31 Q))))))) else (∃ F32, h7.2 p0 = zO 10 F32 ∧ ∀ h33, h33 = zP h7 p0 (zO 10 (zU F32 8 (Value.int (1 : Int32)))) → (zW (d + 1) m_Mo_reads e 82 [Value.ref p0, zD] [] h33 Q))))) else (∃ F34, h4.2 p0 = zO 10 F34 ∧ ∀ h35, h35 = zP h4 p0 (zO 10 (zU F34 8 (Value.int (0 : Int32)))) → (Q none h35))))))) : zW (d + 1) m_Mo_reads e 42 [Value.ref p0, zD] [] h Q := zWg_run (C := zc_Mo_reads) (B := (0, 0)) rfl rfl [8, 42, 82, 140] 37 42 _ _ _ K
set_option maxRecDepth 100000 in
theorem b_Mo_reads_140 {d : Nat} {e : Nat × Nat} {h : zH} {Q : zQ} {p0 : Nat} (K : ∃ F1, h.2 p0 = zO 10 F1 ∧ ∃ x2, F1 6 = Value.int x2 ∧ ((∃ F45, h.2 p0 = zO 10 F45) ∧ zW d m_Mo_byteAt h.1 0 [Value.ref p0, Value.int x2] [] h (fun r3 h4 => ∃ x5, r3 = some (Value.int x5) ∧ (zW d m_Mo_in h4.1 0 [Value.long x5.toInt64, zD, Value.long (48 : Int64), zD, Value.long (57 : Int64), zD] [] h4 (fun r6 h7 => ∃ x8, r6 = some (Value.int x8) ∧ ((if x8 = 0 then ∃ F9, h7.2 p0 = zO 10 F9 ∧ ∃ x10, F9 6 = Value.int x10 ∧ (∃ F11, h7.2 p0 = zO 10 F11 ∧ ∃ x12, F11 7 = Value.int x12 ∧ ((if (4 : Int32) < (x10 - x12) then (∃ F15, h7.2 p0 = zO 10 F15) ∧ zW d m_Mo_requires h7.1 0 [Value.ref p0, Value.int (0 : Int32), Value.int (1 : Int32)] [] h7 (fun r13 h14 => r13 = none ∧ (Q none h14)) else (∃ F18, h7.2 p0 = zO 10 F18) ∧ zW d m_Mo_requires h7.1 0 [Value.ref p0, Value.int (1 : Int32), Value.int (1 : Int32)] [] h7 (fun r16 h17 => r16 = none ∧ (Q none h17))))) else ∃ F19, h7.2 p0 = zO 10 F19 ∧ ∃ x20, F19 6 = Value.int x20 ∧ (∃ F21, h7.2 p0 = zO 10 F21 ∧ ∃ x22, F21 7 = Value.int x22 ∧ ((if (4 : Int32) ≤ (x20 - x22) then ∃ F23, h7.2 p0 = zO 10 F23 ∧ ∃ x24, F23 9 = Value.int x24 ∧ ((∃ F25, h7.2 p0 = zO 10 F25 ∧ ∀ h26, h26 = zP h7 p0 (zO 10 (zU F25 9 (Value.int x24))) → (∃ F27, h26.2 p0 = zO 10 F27 ∧ ∃ x28, F27 6 = Value.int x28 ∧ ((∃ F29, h26.2 p0 = zO 10 F29 ∧ ∀ h30, h30 = zP h26 p0 (zO 10 (zU F29 6 (Value.int (x28 + (1 : Int32))))) → (zW (d + 1) m_Mo_reads e 140 [Value.ref p0, zD] [] h30 Q)))))) else ∃ F31, h7.2 p0 = zO 10 F31 ∧ ∃ x32, F31 9 = Value.int x32 ∧ (∃ F33, h7.2 p0 = zO 10 F33 ∧ ∃ x34, F33 6 = Value.int x34 ∧ ((∃ F44, h7.2 p0 = zO 10 F44) ∧ zW d m_Mo_byteAt h7.1 0 [Value.ref p0, Value.int x34] [] h7 (fun r35 h36 => ∃ x37, r35 = some (Value.int x37) ∧ ((∃ F38, h36.2 p0 = zO 10 F38 ∧ ∀ h39, h39 = zP h36 p0 (zO 10 (zU F38 9 (Value.int ((((10 : Int32) * x32) + x37) - (48 : Int32))))) → (∃ F40, h39.2 p0 = zO 10 F40 ∧ ∃ x41, F40 6 = Value.int x41 ∧ ((∃ F42, h39.2 p0 = zO 10 F42 ∧ ∀ h43, h43 = zP h39 p0 (zO 10 (zU F42 6 (Value.int (x41 + (1 : Int32))))) → (zW (d + 1) m_Mo_reads e 140 [Value.ref p0, zD] [] h43 Q))))))))))))))))))) : zW (d + 1) m_Mo_reads e 140 [Value.ref p0, zD] [] h Q := zWg_run (C := zc_Mo_reads) (B := (0, 0)) rfl rfl [8, 42, 82, 140] 37 140 _ _ _ K
set_option maxRecDepth 100000 in
theorem b_Mo_reads_82 {d : Nat} {e : Nat × Nat} {h : zH} {Q : zQ} {p0 : Nat} (K : ∃ F1, h.2 p0 = zO 10 F1 ∧ ∃ x2, F1 6 = Value.int x2 ∧ ((∃ F13, h.2 p0 = zO 10 F13) ∧ zW d m_Mo_byteAt h.1 0 [Value.ref p0, Value.int x2] [] h (fun r3 h4 => ∃ x5, r3 = some (Value.int x5) ∧ (zW d m_Mo_in h4.1 0 [Value.long x5.toInt64, zD, Value.long (97 : Int64), zD, Value.long (122 : Int64), zD] [] h4 (fun r6 h7 => ∃ x8, r6 = some (Value.int x8) ∧ ((if x8 = 0 then Q none h7 else ∃ F9, h7.2 p0 = zO 10 F9 ∧ ∃ x10, F9 6 = Value.int x10 ∧ ((∃ F11, h7.2 p0 = zO 10 F11 ∧ ∀ h12, h12 = zP h7 p0 (zO 10 (zU F11 6 (Value.int (x10 + (1 : Int32))))) → (zW (d + 1) m_Mo_reads e 82 [Value.ref p0, zD] [] h12 Q)))))))))) : zW (d + 1) m_Mo_reads e 82 [Value.ref p0, zD] [] h Q := zWg_run (C := zc_Mo_reads) (B := (0, 0)) rfl rfl [8, 42, 82, 140] 16 82 _ _ _ K
set_option maxRecDepth 100000 in
theorem b_Mo_numberNow_0 {d : Nat} {e : Nat × Nat} {h : zH} {Q : zQ} {p0 : Nat} {p1 : Int32} {p2 : Int32} (K : ∃ F1, h.2 p0 = zO 10 F1 ∧ ∃ x2, F1 10 = Value.int x2 ∧ ((if x2 = 0 then ∃ F3, h.2 p0 = zO 10 F3 ∧ ∃ x4, F3 8 = Value.int x4 ∧ ((if x4 = (2 : Int32) then (∃ F7, h.2 p0 = zO 10 F7) ∧ zW d m_Mo_requires h.1 0 [Value.ref p0, Value.int (1 : Int32), Value.int (2 : Int32)] [] h (fun r5 h6 => r5 = none ∧ (zW (d + 1) m_Mo_numberNow e 25 [Value.ref p0, Value.int p1, Value.int p2] [] h6 Q)) else (∃ F10, h.2 p0 = zO 10 F10) ∧ zW d m_Mo_requires h.1 0 [Value.ref p0, Value.int (0 : Int32), Value.int (2 : Int32)] [] h (fun r8 h9 => r8 = none ∧ (zW (d + 1) m_Mo_numberNow e 25 [Value.ref p0, Value.int p1, Value.int p2] [] h9 Q)))) else zW (d + 1) m_Mo_numberNow e 25 [Value.ref p0, Value.int p1, Value.int p2] [] h Q))) : zW (d + 1) m_Mo_numberNow e 0 [Value.ref p0, Value.int p1, Value.int p2] [] h Q := zWg_run (C := zc_Mo_numberNow) (B := (0, 0)) rfl rfl [25] 12 0 _ _ _ K
set_option maxRecDepth 100000 in
theorem b_Mo_numberNow_25 {d : Nat} {e : Nat × Nat} {h : zH} {Q : zQ} {p0 : Nat} {p1 : Int32} {p2 : Int32} (K : ∃ F1, h.2 p0 = zO 10 F1 ∧ ∃ x2, F1 10 = Value.int x2 ∧ ((if x2 = 0 then ∃ F3, h.2 p0 = zO 10 F3 ∧ ∃ x4, F3 9 = Value.int x4 ∧ (zW d m_Mo_in h.1 0 [Value.long x4.toInt64, zD, Value.long p1.toInt64, zD, Value.long p2.toInt64, zD] [] h (fun r5 h6 => ∃ x7, r5 = some (Value.int x7) ∧ ((∃ F14, h6.2 p0 = zO 10 F14) ∧ zW d m_Mo_requires h6.1 0 [Value.ref p0, Value.int x7, Value.int (3 : Int32)] [] h6 (fun r8 h9 => r8 = none ∧ (∃ F10, h9.2 p0 = zO 10 F10 ∧ ∃ x11, F10 10 = Value.int x11 ∧ ((if x11 = 0 then ∃ F12, h9.2 p0 = zO 10 F12 ∧ ∃ x13, F12 9 = Value.int x13 ∧ (Q (some (Value.int x13)) h9) else Q (some (Value.int (0 : Int32))) h9))))))) else ∃ F15, h.2 p0 = zO 10 F15 ∧ ∃ x16, F15 10 = Value.int x16 ∧ ((if x16 = 0 then ∃ F17, h.2 p0 = zO 10 F17 ∧ ∃ x18, F17 9 = Value.int x18 ∧ (Q (some (Value.int x18)) h) else Q (some (Value.int (0 : Int32))) h))))) : zW (d + 1) m_Mo_numberNow e 25 [Value.ref p0, Value.int p1, Value.int p2] [] h Q := zWg_run (C := zc_Mo_numberNow) (B := (0, 0)) rfl rfl [25] 21 25 _ _ _ K
set_option maxRecDepth 100000 in
theorem b_Mo_readNumber_0 {d : Nat} {e : Nat × Nat} {h : zH} {Q : zQ} {p0 : Nat} {p1 : Int32} {p2 : Int32} (K : (∃ F7, h.2 p0 = zO 10 F7) ∧ zW d m_Mo_numberNow h.1 0 [Value.ref p0, Value.int p1, Value.int p2] [] h (fun r1 h2 => ∃ x3, r1 = some (Value.int x3) ∧ ((∃ F6, h2.2 p0 = zO 10 F6) ∧ zW d m_Mo_reads h2.1 0 [Value.ref p0, zD] [] h2 (fun r4 h5 => r4 = none ∧ (Q (some (Value.int x3)) h5))))) : zW (d + 1) m_Mo_readNumber e 0 [Value.ref p0, Value.int p1, Value.int p2, zD] [] h Q := zWg_run (C := zc_Mo_readNumber) (B := (0, 0)) rfl rfl [] 9 0 _ _ _ K
set_option maxRecDepth 100000 in
theorem b_Mo_readStop_0 {d : Nat} {e : Nat × Nat} {h : zH} {Q : zQ} {p0 : Nat} (K : ∃ F1, h.2 p0 = zO 10 F1 ∧ ∃ x2, F1 10 = Value.int x2 ∧ ((if x2 = 0 then ∃ F3, h.2 p0 = zO 10 F3 ∧ ∃ x4, F3 8 = Value.int x4 ∧ ((if x4 = (3 : Int32) then (∃ F10, h.2 p0 = zO 10 F10) ∧ zW d m_Mo_requires h.1 0 [Value.ref p0, Value.int (1 : Int32), Value.int (2 : Int32)] [] h (fun r5 h6 => r5 = none ∧ ((∃ F9, h6.2 p0 = zO 10 F9) ∧ zW d m_Mo_reads h6.1 0 [Value.ref p0, zD] [] h6 (fun r7 h8 => r7 = none ∧ (Q none h8)))) else (∃ F16, h.2 p0 = zO 10 F16) ∧ zW d m_Mo_requires h.1 0 [Value.ref p0, Value.int (0 : Int32), Value.int (2 : Int32)] [] h (fun r11 h12 => r11 = none ∧ ((∃ F15, h12.2 p0 = zO 10 F15) ∧ zW d m_Mo_reads h12.1 0 [Value.ref p0, zD] [] h12 (fun r13 h14 => r13 = none ∧ (Q none h14)))))) else (∃ F19, h.2 p0 = zO 10 F19) ∧ zW d m_Mo_reads h.1 0 [Value.ref p0, zD] [] h (fun r17 h18 => r17 = none ∧ (Q none h18))))) : zW (d + 1) m_Mo_readStop e 0 [Value.ref p0] [] h Q := zWg_run (C := zc_Mo_readStop) (B := (0, 0)) rfl rfl [] 15 0 _ _ _ K
set_option maxRecDepth 100000 in
theorem b_Mo_readHear_0 {d : Nat} {e : Nat × Nat} {h : zH} {Q : zQ} {p0 : Nat} (K : (∃ F27, h.2 p0 = zO 10 F27) ∧ zW d m_Mo_readNumber h.1 0 [Value.ref p0, Value.int (0 : Int32), Value.int (15 : Int32), zD] [] h (fun r1 h2 => ∃ x3, r1 = some (Value.int x3) ∧ (∃ F4, h2.2 p0 = zO 10 F4 ∧ ∃ x5, F4 1 = Value.ref x5 ∧ (∃ n6 f7, h2.2 x5 = zI 0 n6 f7 ∧ zIn (0 : Int32) n6 ∧ ((∃ F26, h2.2 p0 = zO 10 F26) ∧ zW d m_Mo_numberNow h2.1 0 [Value.ref p0, Value.int (0 : Int32), Value.int ((f7 (0 : Int32).toNatClampNeg) - (1 : Int32))] [] h2 (fun r8 h9 => ∃ x10, r8 = some (Value.int x10) ∧ (∃ F11, h9.2 p0 = zO 10 F11 ∧ ∃ x12, F11 10 = Value.int x12 ∧ ((if x12 = 0 then ∃ F13, h9.2 p0 = zO 10 F13 ∧ ∃ x14, F13 1 = Value.ref x14 ∧ (zW d m_Mo_at h9.1 0 [Value.int x3, Value.int x10] [] h9 (fun r15 h16 => ∃ x17, r15 = some (Value.int x17) ∧ (∃ n18 f19, h16.2 x14 = zI 0 n18 f19 ∧ zIn x17 n18 ∧ ((if (f19 x17.toNatClampNeg) = (-4 : Int32) then (∃ F22, h16.2 p0 = zO 10 F22) ∧ zW d m_Mo_requires h16.1 0 [Value.ref p0, Value.int (1 : Int32), Value.int (4 : Int32)] [] h16 (fun r20 h21 => r20 = none ∧ (zW (d + 1) m_Mo_readHear e 54 [Value.ref p0, Value.int x3, Value.int x10, zD] [] h21 Q)) else (∃ F25, h16.2 p0 = zO 10 F25) ∧ zW d m_Mo_requires h16.1 0 [Value.ref p0, Value.int (0 : Int32), Value.int (4 : Int32)] [] h16 (fun r23 h24 => r23 = none ∧ (zW (d + 1) m_Mo_readHear e 54 [Value.ref p0, Value.int x3, Value.int x10, zD] [] h24 Q))))))) else zW (d + 1) m_Mo_readHear e 54 [Value.ref p0, Value.int x3, Value.int x10, zD] [] h9 Q))))))))) : zW (d + 1) m_Mo_readHear e 0 [Value.ref p0, zD, zD, zD] [] h Q := zWg_run (C := zc_Mo_readHear) (B := (0, 0)) rfl rfl [54] 31 0 _ _ _ K
set_option maxRecDepth 100000 in
theorem b_Mo_readHear_54 {d : Nat} {e : Nat × Nat} {h : zH} {Q : zQ} {p0 : Nat} {p1 : Int32} {p2 : Int32} (K : (∃ F17, h.2 p0 = zO 10 F17) ∧ zW d m_Mo_reads h.1 0 [Value.ref p0, zD] [] h (fun r1 h2 => r1 = none ∧ ((∃ F16, h2.2 p0 = zO 10 F16) ∧ zW d m_Mo_readNumber h2.1 0 [Value.ref p0, Value.int (0 : Int32), Value.int (9999 : Int32), zD] [] h2 (fun r3 h4 => ∃ x5, r3 = some (Value.int x5) ∧ (∃ F6, h4.2 p0 = zO 10 F6 ∧ ∃ x7, F6 10 = Value.int x7 ∧ ((if x7 = 0 then ∃ F8, h4.2 p0 = zO 10 F8 ∧ ∃ x9, F8 1 = Value.ref x9 ∧ (zW d m_Mo_at h4.1 0 [Value.int p1, Value.int p2] [] h4 (fun r10 h11 => ∃ x12, r10 = some (Value.int x12) ∧ ((∃ n13 f14, h11.2 x9 = zI 0 n13 f14 ∧ zIn x12 n13 ∧ ∀ h15, h15 = zP h11 x9 (zI 0 n13 (zU f14 x12.toNatClampNeg x5)) → (Q none h15))))) else Q none h4))))))) : zW (d + 1) m_Mo_readHear e 54 [Value.ref p0, Value.int p1, Value.int p2, zD] [] h Q := zWg_run (C := zc_Mo_readHear) (B := (0, 0)) rfl rfl [54] 18 54 _ _ _ K
set_option maxRecDepth 100000 in
theorem b_Mo_readLine_0 {d : Nat} {e : Nat × Nat} {h : zH} {Q : zQ} {p0 : Nat} (K : (∃ F4, h.2 p0 = zO 10 F4) ∧ zW d m_Mo_lineNow h.1 0 [Value.ref p0] [] h (fun r1 h2 => ∃ x3, r1 = some (Value.int x3) ∧ ((if x3 = (-4 : Int32) then zW (d + 1) m_Mo_readLine e 21 [Value.ref p0, Value.int x3] [Value.int (0 : Int32), Value.ref p0] h2 Q else (if x3 = 0 then zW (d + 1) m_Mo_readLine e 21 [Value.ref p0, Value.int x3] [Value.int (0 : Int32), Value.ref p0] h2 Q else zW (d + 1) m_Mo_readLine e 21 [Value.ref p0, Value.int x3] [Value.int (1 : Int32), Value.ref p0] h2 Q))))) : zW (d + 1) m_Mo_readLine e 0 [Value.ref p0, zD] [] h Q := zWg_run (C := zc_Mo_readLine) (B := (0, 0)) rfl rfl [21, 38, 65] 11 0 _ _ _ K
set_option maxRecDepth 100000 in
theorem b_Mo_readLine_21 {d : Nat} {e : Nat × Nat} {h : zH} {Q : zQ} {p0 : Nat} {p1 : Int32} {s0 : Int32} {s1 : Nat} (K : (∃ F10, h.2 s1 = zO 10 F10) ∧ zW d m_Mo_requires h.1 0 [Value.ref s1, Value.int s0, Value.int (2 : Int32)] [] h (fun r1 h2 => r1 = none ∧ ((if p1 = (2 : Int32) then ∃ F3, h2.2 p0 = zO 10 F3 ∧ ∃ x4, F3 12 = Value.int x4 ∧ ((if x4 = 0 then zW (d + 1) m_Mo_readLine e 38 [Value.ref p0, Value.int p1] [Value.ref p0] h2 Q else (∃ F9, h2.2 p0 = zO 10 F9) ∧ zW d m_Mo_requires h2.1 0 [Value.ref p0, Value.int (0 : Int32), Value.int (4 : Int32)] [] h2 (fun r5 h6 => r5 = none ∧ ((if p1 = (3 : Int32) then ∃ F7, h6.2 p0 = zO 10 F7 ∧ ∃ x8, F7 13 = Value.int x8 ∧ ((if x8 = 0 then zW (d + 1) m_Mo_readLine e 65 [Value.ref p0, Value.int p1] [Value.int (1 : Int32), Value.ref p0] h6 Q else zW (d + 1) m_Mo_readLine e 65 [Value.ref p0, Value.int p1] [Value.int (0 : Int32), Value.ref p0] h6 Q)) else zW (d + 1) m_Mo_readLine e 65 [Value.ref p0, Value.int p1] [Value.int (1 : Int32), Value.ref p0] h6 Q))))) else zW (d + 1) m_Mo_readLine e 38 [Value.ref p0, Value.int p1] [Value.ref p0] h2 Q)))) : zW (d + 1) m_Mo_readLine e 21 [Value.ref p0, Value.int p1] [Value.int s0, Value.ref s1] h Q := zWg_run (C := zc_Mo_readLine) (B := (0, 0)) rfl rfl [21, 38, 65] 21 21 _ _ _ K
set_option maxRecDepth 100000 in
theorem b_Mo_readLine_38 {d : Nat} {e : Nat × Nat} {h : zH} {Q : zQ} {p0 : Nat} {p1 : Int32} {s0 : Nat} (K : (∃ F5, h.2 s0 = zO 10 F5) ∧ zW d m_Mo_requires h.1 0 [Value.ref s0, Value.int (1 : Int32), Value.int (4 : Int32)] [] h (fun r1 h2 => r1 = none ∧ ((if p1 = (3 : Int32) then ∃ F3, h2.2 p0 = zO 10 F3 ∧ ∃ x4, F3 13 = Value.int x4 ∧ ((if x4 = 0 then zW (d + 1) m_Mo_readLine e 65 [Value.ref p0, Value.int p1] [Value.int (1 : Int32), Value.ref p0] h2 Q else zW (d + 1) m_Mo_readLine e 65 [Value.ref p0, Value.int p1] [Value.int (0 : Int32), Value.ref p0] h2 Q)) else zW (d + 1) m_Mo_readLine e 65 [Value.ref p0, Value.int p1] [Value.int (1 : Int32), Value.ref p0] h2 Q)))) : zW (d + 1) m_Mo_readLine e 38 [Value.ref p0, Value.int p1] [Value.ref s0] h Q := zWg_run (C := zc_Mo_readLine) (B := (0, 0)) rfl rfl [21, 38, 65] 13 38 _ _ _ K
set_option maxRecDepth 100000 in
theorem b_Mo_readLine_65 {d : Nat} {e : Nat × Nat} {h : zH} {Q : zQ} {p0 : Nat} {p1 : Int32} {s0 : Int32} {s1 : Nat} (K : (∃ F42, h.2 s1 = zO 10 F42) ∧ zW d m_Mo_requires h.1 0 [Value.ref s1, Value.int s0, Value.int (4 : Int32)] [] h (fun r1 h2 => r1 = none ∧ ((∃ F41, h2.2 p0 = zO 10 F41) ∧ zW d m_Mo_reads h2.1 0 [Value.ref p0, zD] [] h2 (fun r3 h4 => r3 = none ∧ (∃ F5, h4.2 p0 = zO 10 F5 ∧ ∃ x6, F5 10 = Value.int x6 ∧ ((if x6 ≤ 0 then (if p1 = (1 : Int32) then (∃ F12, h4.2 p0 = zO 10 F12) ∧ zW d m_Mo_readHear h4.1 0 [Value.ref p0, zD, zD, zD] [] h4 (fun r7 h8 => r7 = none ∧ ((∃ F11, h8.2 p0 = zO 10 F11) ∧ zW d m_Mo_readStop h8.1 0 [Value.ref p0] [] h8 (fun r9 h10 => r9 = none ∧ (Q none h10)))) else (if p1 = (2 : Int32) then (((1 : Int32) = 0 ∨ (1 : Int32) = 1) ∧ (∃ F13, h4.2 p0 = zO 10 F13 ∧ ∀ h14, h14 = zP h4 p0 (zO 10 (zU F13 12 (Value.int (1 : Int32)))) → (∃ F15, h14.2 p0 = zO 10 F15 ∧ ∃ x16, F15 1 = Value.ref x16 ∧ ((∃ F26, h14.2 p0 = zO 10 F26) ∧ zW d m_Mo_readNumber h14.1 0 [Value.ref p0, Value.int (0 : Int32), Value.int (99 : Int32), zD] [] h14 (fun r17 h18 => ∃ x19, r17 = some (Value.int x19) ∧ ((∃ n20 f21, h18.2 x16 = zI 0 n20 f21 ∧ zIn (1 : Int32) n20 ∧ ∀ h22, h22 = zP h18 x16 (zI 0 n20 (zU f21 (1 : Int32).toNatClampNeg x19)) → ((∃ F25, h22.2 p0 = zO 10 F25) ∧ zW d m_Mo_readStop h22.1 0 [Value.ref p0] [] h22 (fun r23 h24 => r23 = none ∧ (Q none h24)))))))))) else (((1 : Int32) = 0 ∨ (1 : Int32) = 1) ∧ (∃ F27, h4.2 p0 = zO 10 F27 ∧ ∀ h28, h28 = zP h4 p0 (zO 10 (zU F27 13 (Value.int (1 : Int32)))) → (∃ F29, h28.2 p0 = zO 10 F29 ∧ ∃ x30, F29 1 = Value.ref x30 ∧ ((∃ F40, h28.2 p0 = zO 10 F40) ∧ zW d m_Mo_readNumber h28.1 0 [Value.ref p0, Value.int (2 : Int32), Value.int (6 : Int32), zD] [] h28 (fun r31 h32 => ∃ x33, r31 = some (Value.int x33) ∧ ((∃ n34 f35, h32.2 x30 = zI 0 n34 f35 ∧ zIn (2 : Int32) n34 ∧ ∀ h36, h36 = zP h32 x30 (zI 0 n34 (zU f35 (2 : Int32).toNatClampNeg x33)) → ((∃ F39, h36.2 p0 = zO 10 F39) ∧ zW d m_Mo_readStop h36.1 0 [Value.ref p0] [] h36 (fun r37 h38 => r37 = none ∧ (Q none h38)))))))))))) else Q none h4))))))) : zW (d + 1) m_Mo_readLine e 65 [Value.ref p0, Value.int p1] [Value.int s0, Value.ref s1] h Q := zWg_run (C := zc_Mo_readLine) (B := (0, 0)) rfl rfl [21, 38, 65] 28 65 _ _ _ K
set_option maxRecDepth 100000 in
theorem b_Mo_text_0 {d : Nat} {e : Nat × Nat} {h : zH} {Q : zQ} {p0 : Nat} (K : (∃ F1, h.2 p0 = zO 10 F1 ∧ ∀ h2, h2 = zP h p0 (zO 10 (zU F1 10 (Value.int (0 : Int32)))) → ((∃ F3, h2.2 p0 = zO 10 F3 ∧ ∀ h4, h4 = zP h2 p0 (zO 10 (zU F3 6 (Value.int (0 : Int32)))) → ((((0 : Int32) = 0 ∨ (0 : Int32) = 1) ∧ (∃ F5, h4.2 p0 = zO 10 F5 ∧ ∀ h6, h6 = zP h4 p0 (zO 10 (zU F5 12 (Value.int (0 : Int32)))) → ((((0 : Int32) = 0 ∨ (0 : Int32) = 1) ∧ (∃ F7, h6.2 p0 = zO 10 F7 ∧ ∀ h8, h8 = zP h6 p0 (zO 10 (zU F7 13 (Value.int (0 : Int32)))) → (zW (d + 1) m_Mo_text e 20 [Value.ref p0, zD] [] h8 Q))))))))))) : zW (d + 1) m_Mo_text e 0 [Value.ref p0, zD] [] h Q := zWg_run (C := zc_Mo_text) (B := (0, 0)) rfl rfl [20, 93, 136] 12 0 _ _ _ K
set_option maxRecDepth 100000 in
theorem b_Mo_text_20 {d : Nat} {e : Nat × Nat} {h : zH} {Q : zQ} {p0 : Nat} (K : ∃ F1, h.2 p0 = zO 10 F1 ∧ ∃ x2, F1 1 = Value.ref x2 ∧ (∃ F3, h.2 p0 = zO 10 F3 ∧ ∃ x4, F3 0 = Value.ref x4 ∧ (∃ n5 f6, h.2 x4 = zI 0 n5 f6 ∧ zIn (1 : Int32) n5 ∧ ((∃ n7 f8, h.2 x2 = zI 0 n7 f8 ∧ zIn (1 : Int32) n7 ∧ ∀ h9, h9 = zP h x2 (zI 0 n7 (zU f8 (1 : Int32).toNatClampNeg (f6 (1 : Int32).toNatClampNeg))) → (∃ F10, h9.2 p0 = zO 10 F10 ∧ ∃ x11, F10 1 = Value.ref x11 ∧ (∃ F12, h9.2 p0 = zO 10 F12 ∧ ∃ x13, F12 0 = Value.ref x13 ∧ (∃ n14 f15, h9.2 x13 = zI 0 n14 f15 ∧ zIn (2 : Int32) n14 ∧ ((∃ n16 f17, h9.2 x11 = zI 0 n16 f17 ∧ zIn (2 : Int32) n16 ∧ ∀ h18, h18 = zP h9 x11 (zI 0 n16 (zU f17 (2 : Int32).toNatClampNeg (f15 (2 : Int32).toNatClampNeg))) → (∃ F19, h18.2 p0 = zO 10 F19 ∧ ∃ x20, F19 1 = Value.ref x20 ∧ (zW d m_Mo_empties h18.1 0 [Value.ref x20, zD] [] h18 (fun r21 h22 => r21 = none ∧ ((∃ F65, h22.2 p0 = zO 10 F65) ∧ zW d m_Mo_reads h22.1 0 [Value.ref p0, zD] [] h22 (fun r23 h24 => r23 = none ∧ ((∃ F64, h24.2 p0 = zO 10 F64) ∧ zW d m_Mo_lineNow h24.1 0 [Value.ref p0] [] h24 (fun r25 h26 => ∃ x27, r25 = some (Value.int x27) ∧ ((if x27 = 0 then (∃ F45, h26.2 p0 = zO 10 F45) ∧ zW d m_Mo_requires h26.1 0 [Value.ref p0, Value.int (1 : Int32), Value.int (2 : Int32)] [] h26 (fun r28 h29 => r28 = none ∧ ((∃ F44, h29.2 p0 = zO 10 F44) ∧ zW d m_Mo_reads h29.1 0 [Value.ref p0, zD] [] h29 (fun r30 h31 => r30 = none ∧ (∃ F32, h31.2 p0 = zO 10 F32 ∧ ∃ x33, F32 1 = Value.ref x33 ∧ ((∃ F43, h31.2 p0 = zO 10 F43) ∧ zW d m_Mo_readNumber h31.1 0 [Value.ref p0, Value.int (1 : Int32), Value.int (7 : Int32), zD] [] h31 (fun r34 h35 => ∃ x36, r34 = some (Value.int x36) ∧ ((∃ n37 f38, h35.2 x33 = zI 0 n37 f38 ∧ zIn (0 : Int32) n37 ∧ ∀ h39, h39 = zP h35 x33 (zI 0 n37 (zU f38 (0 : Int32).toNatClampNeg x36)) → ((∃ F42, h39.2 p0 = zO 10 F42) ∧ zW d m_Mo_readStop h39.1 0 [Value.ref p0] [] h39 (fun r40 h41 => r40 = none ∧ (zW (d + 1) m_Mo_text e 93 [Value.ref p0, zD] [] h41 Q))))))))))) else (∃ F63, h26.2 p0 = zO 10 F63) ∧ zW d m_Mo_requires h26.1 0 [Value.ref p0, Value.int (0 : Int32), Value.int (2 : Int32)] [] h26 (fun r46 h47 => r46 = none ∧ ((∃ F62, h47.2 p0 = zO 10 F62) ∧ zW d m_Mo_reads h47.1 0 [Value.ref p0, zD] [] h47 (fun r48 h49 => r48 = none ∧ (∃ F50, h49.2 p0 = zO 10 F50 ∧ ∃ x51, F50 1 = Value.ref x51 ∧ ((∃ F61, h49.2 p0 = zO 10 F61) ∧ zW d m_Mo_readNumber h49.1 0 [Value.ref p0, Value.int (1 : Int32), Value.int (7 : Int32), zD] [] h49 (fun r52 h53 => ∃ x54, r52 = some (Value.int x54) ∧ ((∃ n55 f56, h53.2 x51 = zI 0 n55 f56 ∧ zIn (0 : Int32) n55 ∧ ∀ h57, h57 = zP h53 x51 (zI 0 n55 (zU f56 (0 : Int32).toNatClampNeg x54)) → ((∃ F60, h57.2 p0 = zO 10 F60) ∧ zW d m_Mo_readStop h57.1 0 [Value.ref p0] [] h57 (fun r58 h59 => r58 = none ∧ (zW (d + 1) m_Mo_text e 93 [Value.ref p0, zD] [] h59 Q)))))))))))))))))))))))))))))) : zW (d + 1) m_Mo_text e 20 [Value.ref p0, zD] [] h Q := zWg_run (C := zc_Mo_text) (B := (0, 0)) rfl rfl [20, 93, 136] 41 20 _ _ _ K
set_option maxRecDepth 100000 in
theorem b_Mo_text_93 {d : Nat} {e : Nat × Nat} {h : zH} {Q : zQ} {p0 : Nat} (K : ∃ F1, h.2 p0 = zO 10 F1 ∧ ∃ x2, F1 10 = Value.int x2 ∧ ((if x2 = 0 then ∃ F3, h.2 p0 = zO 10 F3 ∧ ∃ x4, F3 8 = Value.int x4 ∧ ((if x4 = 0 then (∃ F5, h.2 p0 = zO 10 F5 ∧ ∀ h6, h6 = zP h p0 (zO 10 (zU F5 5 (Value.int (0 : Int32)))) → (∃ F7, h6.2 p0 = zO 10 F7 ∧ ∃ x8, F7 10 = Value.int x8 ∧ ((if x8 ≤ 0 then zW (d + 1) m_Mo_text e 136 [Value.ref p0, Value.int (0 : Int32)] [] h6 Q else ∃ F9, h6.2 p0 = zO 10 F9 ∧ ∃ x10, F9 11 = Value.int x10 ∧ (Q (some (Value.int ((-10 : Int32) - x10))) h6))))) else (∃ F13, h.2 p0 = zO 10 F13) ∧ zW d m_Mo_readLine h.1 0 [Value.ref p0, zD] [] h (fun r11 h12 => r11 = none ∧ (zW (d + 1) m_Mo_text e 93 [Value.ref p0, zD] [] h12 Q)))) else (∃ F14, h.2 p0 = zO 10 F14 ∧ ∀ h15, h15 = zP h p0 (zO 10 (zU F14 5 (Value.int (0 : Int32)))) → (∃ F16, h15.2 p0 = zO 10 F16 ∧ ∃ x17, F16 10 = Value.int x17 ∧ ((if x17 ≤ 0 then zW (d + 1) m_Mo_text e 136 [Value.ref p0, Value.int (0 : Int32)] [] h15 Q else ∃ F18, h15.2 p0 = zO 10 F18 ∧ ∃ x19, F18 11 = Value.int x19 ∧ (Q (some (Value.int ((-10 : Int32) - x19))) h15)))))))) : zW (d + 1) m_Mo_text e 93 [Value.ref p0, zD] [] h Q := zWg_run (C := zc_Mo_text) (B := (0, 0)) rfl rfl [20, 93, 136] 17 93 _ _ _ K
set_option maxRecDepth 100000 in
theorem b_Mo_text_136 {d : Nat} {e : Nat × Nat} {h : zH} {Q : zQ} {p0 : Nat} {p1 : Int32} (K : (if (115 : Int32) ≤ p1 then ∃ F1, h.2 p0 = zO 10 F1 ∧ ∃ x2, F1 3 = Value.ref x2 ∧ (((0 : Int32) = 0 ∨ (0 : Int32) = 1) ∧ (∃ n3 f4, h.2 x2 = zI 1 n3 f4 ∧ zIn (0 : Int32) n3 ∧ ∀ h5, h5 = zP h x2 (zI 1 n3 (zU f4 (0 : Int32).toNatClampNeg (0 : Int32))) → (∃ F6, h5.2 p0 = zO 10 F6 ∧ ∃ x7, F6 3 = Value.ref x7 ∧ (((0 : Int32) = 0 ∨ (0 : Int32) = 1) ∧ (∃ n8 f9, h5.2 x7 = zI 1 n8 f9 ∧ zIn (1 : Int32) n8 ∧ ∀ h10, h10 = zP h5 x7 (zI 1 n8 (zU f9 (1 : Int32).toNatClampNeg (0 : Int32))) → ((∃ F14, h10.2 p0 = zO 10 F14) ∧ zW d m_Mo_stamps h10.1 0 [Value.ref p0, zD, zD] [] h10 (fun r11 h12 => ∃ x13, r11 = some (Value.int x13) ∧ (Q (some (Value.int x13)) h12)))))))) else ∃ F15, h.2 p0 = zO 10 F15 ∧ ∃ x16, F15 0 = Value.ref x16 ∧ (∃ F17, h.2 p0 = zO 10 F17 ∧ ∃ x18, F17 1 = Value.ref x18 ∧ (∃ n19 f20, h.2 x18 = zI 0 n19 f20 ∧ zIn p1 n19 ∧ ((∃ n21 f22, h.2 x16 = zI 0 n21 f22 ∧ zIn p1 n21 ∧ ∀ h23, h23 = zP h x16 (zI 0 n21 (zU f22 p1.toNatClampNeg (f20 p1.toNatClampNeg))) → (zW (d + 1) m_Mo_text e 136 [Value.ref p0, Value.int (p1 + 1)] [] h23 Q))))))) : zW (d + 1) m_Mo_text e 136 [Value.ref p0, Value.int p1] [] h Q := zWg_run (C := zc_Mo_text) (B := (0, 0)) rfl rfl [20, 93, 136] 16 136 _ _ _ K
set_option maxRecDepth 100000 in
theorem b_Mo_fault_0 {d : Nat} {e : Nat × Nat} {h : zH} {Q : zQ} {p0 : Nat} (K : ∃ F1, h.2 p0 = zO 10 F1 ∧ ∃ x2, F1 10 = Value.int x2 ∧ (Q (some (Value.int x2)) h)) : zW (d + 1) m_Mo_fault e 0 [Value.ref p0] [] h Q := zWg_run (C := zc_Mo_fault) (B := (0, 0)) rfl rfl [] 3 0 _ _ _ K
set_option maxRecDepth 100000 in
theorem b_Mo_isClock_0 {d : Nat} {e : Nat × Nat} {h : zH} {Q : zQ} {p0 : Nat} {p1 : Int32} (K : ∃ F1, h.2 p0 = zO 10 F1 ∧ ∃ x2, F1 0 = Value.ref x2 ∧ (∃ n3 f4, h.2 x2 = zI 0 n3 f4 ∧ zIn (0 : Int32) n3 ∧ (zW d m_Mo_in h.1 0 [Value.long p1.toInt64, zD, Value.long (0 : Int64), zD, Value.long (((f4 (0 : Int32).toNatClampNeg) - (1 : Int32)).toInt64), zD] [] h (fun r5 h6 => ∃ x7, r5 = some (Value.int x7) ∧ (((x7 = 0 ∨ x7 = 1) ∧ Q (some (Value.int x7)) h6)))))) : zW (d + 1) m_Mo_isClock e 0 [Value.ref p0, Value.int p1] [] h Q := zWg_run (C := zc_Mo_isClock) (B := (0, 0)) rfl rfl [] 12 0 _ _ _ K
set_option maxRecDepth 100000 in
theorem b_Mo_isBeacon_0 {d : Nat} {e : Nat × Nat} {h : zH} {Q : zQ} {p0 : Int32} (K : zW d m_Mo_in h.1 0 [Value.long p0.toInt64, zD, Value.long (0 : Int64), zD, Value.long (15 : Int64), zD] [] h (fun r1 h2 => ∃ x3, r1 = some (Value.int x3) ∧ (((x3 = 0 ∨ x3 = 1) ∧ Q (some (Value.int x3)) h2)))) : zW (d + 1) m_Mo_isBeacon e 0 [Value.int p0] [] h Q := zWg_run (C := zc_Mo_isBeacon) (B := (0, 0)) rfl rfl [] 6 0 _ _ _ K
set_option maxRecDepth 100000 in
theorem b_Mo_stampsOf_0 {d : Nat} {e : Nat × Nat} {h : zH} {Q : zQ} {p0 : Nat} {p1 : Int32} (K : zW (d + 1) m_Mo_stampsOf e 4 [Value.ref p0, Value.int p1, Value.int (0 : Int32), Value.int (0 : Int32)] [] h Q) : zW (d + 1) m_Mo_stampsOf e 0 [Value.ref p0, Value.int p1, zD, zD] [] h Q := zWg_run (C := zc_Mo_stampsOf) (B := (0, 0)) rfl rfl [4] 4 0 _ _ _ K
set_option maxRecDepth 100000 in
theorem b_Mo_stampsOf_4 {d : Nat} {e : Nat × Nat} {h : zH} {Q : zQ} {p0 : Nat} {p1 : Int32} {p2 : Int32} {p3 : Int32} (K : (if (16 : Int32) ≤ p3 then Q (some (Value.int p2)) h else ∃ F1, h.2 p0 = zO 10 F1 ∧ ∃ x2, F1 0 = Value.ref x2 ∧ (zW d m_Mo_at h.1 0 [Value.int p3, Value.int p1] [] h (fun r3 h4 => ∃ x5, r3 = some (Value.int x5) ∧ (∃ n6 f7, h4.2 x2 = zI 0 n6 f7 ∧ zIn x5 n6 ∧ ((if (f7 x5.toNatClampNeg) = (-4 : Int32) then zW d m_Mo_flag h4.1 0 [Value.int (0 : Int32)] [] h4 (fun r8 h9 => ∃ x10, r8 = some (Value.int x10) ∧ (zW (d + 1) m_Mo_stampsOf e 4 [Value.ref p0, Value.int p1, Value.int (p2 + x10), Value.int (p3 + 1)] [] h9 Q)) else zW d m_Mo_flag h4.1 0 [Value.int (1 : Int32)] [] h4 (fun r11 h12 => ∃ x13, r11 = some (Value.int x13) ∧ (zW (d + 1) m_Mo_stampsOf e 4 [Value.ref p0, Value.int p1, Value.int (p2 + x13), Value.int (p3 + 1)] [] h12 Q))))))))) : zW (d + 1) m_Mo_stampsOf e 4 [Value.ref p0, Value.int p1, Value.int p2, Value.int p3] [] h Q := zWg_run (C := zc_Mo_stampsOf) (B := (0, 0)) rfl rfl [4] 19 4 _ _ _ K
set_option maxRecDepth 100000 in
theorem b_Mo_stamps_0 {d : Nat} {e : Nat × Nat} {h : zH} {Q : zQ} {p0 : Nat} (K : zW (d + 1) m_Mo_stamps e 4 [Value.ref p0, Value.int (0 : Int32), Value.int (0 : Int32)] [] h Q) : zW (d + 1) m_Mo_stamps e 0 [Value.ref p0, zD, zD] [] h Q := zWg_run (C := zc_Mo_stamps) (B := (0, 0)) rfl rfl [4] 4 0 _ _ _ K
set_option maxRecDepth 100000 in
theorem b_Mo_stamps_4 {d : Nat} {e : Nat × Nat} {h : zH} {Q : zQ} {p0 : Nat} {p1 : Int32} {p2 : Int32} (K : ∃ F1, h.2 p0 = zO 10 F1 ∧ ∃ x2, F1 0 = Value.ref x2 ∧ (∃ n3 f4, h.2 x2 = zI 0 n3 f4 ∧ zIn (0 : Int32) n3 ∧ ((if (f4 (0 : Int32).toNatClampNeg) ≤ p2 then Q (some (Value.int p1)) h else (∃ F8, h.2 p0 = zO 10 F8) ∧ zW d m_Mo_stampsOf h.1 0 [Value.ref p0, Value.int p2, zD, zD] [] h (fun r5 h6 => ∃ x7, r5 = some (Value.int x7) ∧ (zW (d + 1) m_Mo_stamps e 4 [Value.ref p0, Value.int (p1 + x7), Value.int (p2 + 1)] [] h6 Q)))))) : zW (d + 1) m_Mo_stamps e 4 [Value.ref p0, Value.int p1, Value.int p2] [] h Q := zWg_run (C := zc_Mo_stamps) (B := (0, 0)) rfl rfl [4] 14 4 _ _ _ K
set_option maxRecDepth 100000 in
theorem b_Mo_unheard_0 {d : Nat} {e : Nat × Nat} {h : zH} {Q : zQ} {p0 : Nat} (K : zW (d + 1) m_Mo_unheard e 4 [Value.ref p0, Value.int (0 : Int32), Value.int (0 : Int32), zD, zD] [] h Q) : zW (d + 1) m_Mo_unheard e 0 [Value.ref p0, zD, zD, zD, zD] [] h Q := zWg_run (C := zc_Mo_unheard) (B := (0, 0)) rfl rfl [4, 15] 4 0 _ _ _ K
set_option maxRecDepth 100000 in
theorem b_Mo_unheard_4 {d : Nat} {e : Nat × Nat} {h : zH} {Q : zQ} {p0 : Nat} {p1 : Int32} {p2 : Int32} (K : (if (16 : Int32) ≤ p2 then Q (some (Value.int p1)) h else zW (d + 1) m_Mo_unheard e 15 [Value.ref p0, Value.int p1, Value.int p2, Value.int (0 : Int32), Value.int (0 : Int32)] [] h Q)) : zW (d + 1) m_Mo_unheard e 4 [Value.ref p0, Value.int p1, Value.int p2, zD, zD] [] h Q := zWg_run (C := zc_Mo_unheard) (B := (0, 0)) rfl rfl [4, 15] 7 4 _ _ _ K
set_option maxRecDepth 100000 in
theorem b_Mo_unheard_15 {d : Nat} {e : Nat × Nat} {h : zH} {Q : zQ} {p0 : Nat} {p1 : Int32} {p2 : Int32} {p3 : Int32} {p4 : Int32} (K : ∃ F1, h.2 p0 = zO 10 F1 ∧ ∃ x2, F1 0 = Value.ref x2 ∧ (∃ n3 f4, h.2 x2 = zI 0 n3 f4 ∧ zIn (0 : Int32) n3 ∧ ((if (f4 (0 : Int32).toNatClampNeg) ≤ p4 then (if p3 = 0 then zW d m_Mo_flag h.1 0 [Value.int (1 : Int32)] [] h (fun r5 h6 => ∃ x7, r5 = some (Value.int x7) ∧ (zW (d + 1) m_Mo_unheard e 4 [Value.ref p0, Value.int (p1 + x7), Value.int (p2 + 1), zD, zD] [] h6 Q)) else zW d m_Mo_flag h.1 0 [Value.int (0 : Int32)] [] h (fun r8 h9 => ∃ x10, r8 = some (Value.int x10) ∧ (zW (d + 1) m_Mo_unheard e 4 [Value.ref p0, Value.int (p1 + x10), Value.int (p2 + 1), zD, zD] [] h9 Q))) else (if p3 = 0 then ∃ F11, h.2 p0 = zO 10 F11 ∧ ∃ x12, F11 0 = Value.ref x12 ∧ (zW d m_Mo_at h.1 0 [Value.int p2, Value.int p4] [] h (fun r13 h14 => ∃ x15, r13 = some (Value.int x15) ∧ (∃ n16 f17, h14.2 x12 = zI 0 n16 f17 ∧ zIn x15 n16 ∧ ((if (f17 x15.toNatClampNeg) = (-4 : Int32) then zW (d + 1) m_Mo_unheard e 15 [Value.ref p0, Value.int p1, Value.int p2, Value.int (0 : Int32), Value.int (p4 + 1)] [] h14 Q else zW (d + 1) m_Mo_unheard e 15 [Value.ref p0, Value.int p1, Value.int p2, Value.int (1 : Int32), Value.int (p4 + 1)] [] h14 Q))))) else zW (d + 1) m_Mo_unheard e 15 [Value.ref p0, Value.int p1, Value.int p2, Value.int (1 : Int32), Value.int (p4 + 1)] [] h Q))))) : zW (d + 1) m_Mo_unheard e 15 [Value.ref p0, Value.int p1, Value.int p2, Value.int p3, Value.int p4] [] h Q := zWg_run (C := zc_Mo_unheard) (B := (0, 0)) rfl rfl [4, 15] 21 15 _ _ _ K
set_option maxRecDepth 100000 in
theorem b_Mo_rule_0 {d : Nat} {e : Nat × Nat} {h : zH} {Q : zQ} {p0 : Nat} {p1 : Int32} (K : (if p1 = 0 then (∃ F1, h.2 p0 = zO 10 F1 ∧ ∃ x2, F1 0 = Value.ref x2 ∧ (∃ n3 f4, h.2 x2 = zI 0 n3 f4 ∧ zIn (0 : Int32) n3 ∧ (Q (some (Value.int (f4 (0 : Int32).toNatClampNeg))) h))) else if p1 = 1 then ((∃ F8, h.2 p0 = zO 10 F8) ∧ zW d m_Mo_stamps h.1 0 [Value.ref p0, zD, zD] [] h (fun r5 h6 => ∃ x7, r5 = some (Value.int x7) ∧ (Q (some (Value.int x7)) h6))) else if p1 = 2 then (∃ F9, h.2 p0 = zO 10 F9 ∧ ∃ x10, F9 0 = Value.ref x10 ∧ (∃ n11 f12, h.2 x10 = zI 0 n11 f12 ∧ zIn (1 : Int32) n11 ∧ (Q (some (Value.int (f12 (1 : Int32).toNatClampNeg))) h))) else if p1 = 3 then (∃ F13, h.2 p0 = zO 10 F13 ∧ ∃ x14, F13 0 = Value.ref x14 ∧ (∃ n15 f16, h.2 x14 = zI 0 n15 f16 ∧ zIn (2 : Int32) n15 ∧ (Q (some (Value.int (f16 (2 : Int32).toNatClampNeg))) h))) else if p1 = 4 then ((∃ F20, h.2 p0 = zO 10 F20) ∧ zW d m_Mo_ofLines h.1 0 [Value.ref p0, Value.int p1, zD, zD, zD] [] h (fun r17 h18 => ∃ x19, r17 = some (Value.int x19) ∧ (Q (some (Value.int x19)) h18))) else if p1 = 5 then ((∃ F24, h.2 p0 = zO 10 F24) ∧ zW d m_Mo_ofLines h.1 0 [Value.ref p0, Value.int p1, zD, zD, zD] [] h (fun r21 h22 => ∃ x23, r21 = some (Value.int x23) ∧ (Q (some (Value.int x23)) h22))) else if p1 = 6 then ((∃ F28, h.2 p0 = zO 10 F28) ∧ zW d m_Mo_reachable h.1 0 [Value.ref p0, zD, zD] [] h (fun r25 h26 => ∃ x27, r25 = some (Value.int x27) ∧ (Q (some (Value.int x27)) h26))) else if p1 = 7 then ((∃ F32, h.2 p0 = zO 10 F32) ∧ zW d m_Mo_ofLines h.1 0 [Value.ref p0, Value.int p1, zD, zD, zD] [] h (fun r29 h30 => ∃ x31, r29 = some (Value.int x31) ∧ (Q (some (Value.int x31)) h30))) else if p1 = 8 then ((∃ F36, h.2 p0 = zO 10 F36) ∧ zW d m_Mo_unheard h.1 0 [Value.ref p0, zD, zD, zD, zD] [] h (fun r33 h34 => ∃ x35, r33 = some (Value.int x35) ∧ (Q (some (Value.int x35)) h34))) else (Q (some (Value.int (-1 : Int32))) h))) : zW (d + 1) m_Mo_rule e 0 [Value.ref p0, Value.int p1] [] h Q := zWg_run (C := zc_Mo_rule) (B := (0, 0)) rfl rfl [] 7 0 _ _ _ K
set_option maxRecDepth 100000 in
theorem b_Mo_stamp_0 {d : Nat} {e : Nat × Nat} {h : zH} {Q : zQ} {p0 : Nat} {p1 : Int32} {p2 : Int32} (K : zW d m_Mo_isBeacon h.1 0 [Value.int p1] [] h (fun r1 h2 => ∃ x3, r1 = some (Value.int x3) ∧ ((if x3 = 0 then Q (some (Value.int (-1 : Int32))) h2 else (∃ F14, h2.2 p0 = zO 10 F14) ∧ zW d m_Mo_isClock h2.1 0 [Value.ref p0, Value.int p2] [] h2 (fun r4 h5 => ∃ x6, r4 = some (Value.int x6) ∧ ((if x6 = 0 then Q (some (Value.int (-1 : Int32))) h5 else ∃ F7, h5.2 p0 = zO 10 F7 ∧ ∃ x8, F7 0 = Value.ref x8 ∧ (zW d m_Mo_at h5.1 0 [Value.int p1, Value.int p2] [] h5 (fun r9 h10 => ∃ x11, r9 = some (Value.int x11) ∧ (∃ n12 f13, h10.2 x8 = zI 0 n12 f13 ∧ zIn x11 n12 ∧ (Q (some (Value.int (f13 x11.toNatClampNeg))) h10))))))))))) : zW (d + 1) m_Mo_stamp e 0 [Value.ref p0, Value.int p1, Value.int p2] [] h Q := zWg_run (C := zc_Mo_stamp) (B := (0, 0)) rfl rfl [] 15 0 _ _ _ K
set_option maxRecDepth 100000 in
theorem b_Mo_sums_0 {d : Nat} {e : Nat × Nat} {h : zH} {Q : zQ} {p0 : Nat} {p1 : Int32} {p2 : Int32} (K : (∃ F1, h.2 p0 = zO 10 F1 ∧ ∀ h2, h2 = zP h p0 (zO 10 (zU F1 15 (Value.long (0 : Int64)))) → ((∃ F3, h2.2 p0 = zO 10 F3 ∧ ∀ h4, h4 = zP h2 p0 (zO 10 (zU F3 16 (Value.long (0 : Int64)))) → ((∃ F5, h4.2 p0 = zO 10 F5 ∧ ∀ h6, h6 = zP h4 p0 (zO 10 (zU F5 17 (Value.long (0 : Int64)))) → (zW (d + 1) m_Mo_sums e 23 [Value.ref p0, Value.int p1, Value.int p2, Value.long (0 : Int64), zD, Value.long (0 : Int64), zD, Value.int (0 : Int32), zD, zD, zD, zD] [] h6 Q))))))) : zW (d + 1) m_Mo_sums e 0 [Value.ref p0, Value.int p1, Value.int p2, zD, zD, zD, zD, zD, zD, zD, zD, zD] [] h Q := zWg_run (C := zc_Mo_sums) (B := (0, 0)) rfl rfl [23, 64] 15 0 _ _ _ K
set_option maxRecDepth 100000 in
theorem b_Mo_sums_23 {d : Nat} {e : Nat × Nat} {h : zH} {Q : zQ} {p0 : Nat} {p1 : Int32} {p2 : Int32} {p3 : Int64} {p5 : Int64} {p7 : Int32} (K : (if (16 : Int32) ≤ p7 then ∃ F1, h.2 p0 = zO 10 F1 ∧ ∃ x2, F1 15 = Value.long x2 ∧ (∃ F3, h.2 p0 = zO 10 F3 ∧ ∃ x4, F3 16 = Value.long x4 ∧ (∃ F5, h.2 p0 = zO 10 F5 ∧ ∃ x6, F5 16 = Value.long x6 ∧ ((∃ F7, h.2 p0 = zO 10 F7 ∧ ∀ h8, h8 = zP h p0 (zO 10 (zU F7 18 (Value.long ((x2 * p3) - (x4 * x6))))) → (∃ F9, h8.2 p0 = zO 10 F9 ∧ ∃ x10, F9 15 = Value.long x10 ∧ (∃ F11, h8.2 p0 = zO 10 F11 ∧ ∃ x12, F11 16 = Value.long x12 ∧ (∃ F13, h8.2 p0 = zO 10 F13 ∧ ∃ x14, F13 17 = Value.long x14 ∧ ((∃ F15, h8.2 p0 = zO 10 F15 ∧ ∀ h16, h16 = zP h8 p0 (zO 10 (zU F15 19 (Value.long ((x10 * p5) - (x12 * x14))))) → (Q none h16)))))))))) else ∃ F17, h.2 p0 = zO 10 F17 ∧ ∃ x18, F17 22 = Value.ref x18 ∧ (∃ n19 f20, h.2 x18 = zI 1 n19 f20 ∧ zIn p7 n19 ∧ ((if (f20 p7.toNatClampNeg) = 0 then zW (d + 1) m_Mo_sums e 23 [Value.ref p0, Value.int p1, Value.int p2, Value.long p3, zD, Value.long p5, zD, Value.int (p7 + 1), zD, zD, zD, zD] [] h Q else ∃ F21, h.2 p0 = zO 10 F21 ∧ ∃ x22, F21 23 = Value.ref x22 ∧ (∃ n23 f24, h.2 x22 = zI 0 n23 f24 ∧ zIn p7 n23 ∧ ((if (f24 p7.toNatClampNeg) = 0 then ∃ F25, h.2 p0 = zO 10 F25 ∧ ∃ x26, F25 0 = Value.ref x26 ∧ (zW d m_Mo_at h.1 0 [Value.int p7, Value.int p1] [] h (fun r27 h28 => ∃ x29, r27 = some (Value.int x29) ∧ (∃ n30 f31, h28.2 x26 = zI 0 n30 f31 ∧ zIn x29 n30 ∧ (zW (d + 1) m_Mo_sums e 64 [Value.ref p0, Value.int p1, Value.int p2, Value.long p3, zD, Value.long p5, zD, Value.int p7, Value.long ((f31 x29.toNatClampNeg).toInt64), zD, zD, zD] [] h28 Q)))) else zW (d + 1) m_Mo_sums e 23 [Value.ref p0, Value.int p1, Value.int p2, Value.long p3, zD, Value.long p5, zD, Value.int (p7 + 1), zD, zD, zD, zD] [] h Q)))))))) : zW (d + 1) m_Mo_sums e 23 [Value.ref p0, Value.int p1, Value.int p2, Value.long p3, zD, Value.long p5, zD, Value.int p7, zD, zD, zD, zD] [] h Q := zWg_run (C := zc_Mo_sums) (B := (0, 0)) rfl rfl [23, 64] 28 23 _ _ _ K
set_option maxRecDepth 100000 in
theorem b_Mo_sums_64 {d : Nat} {e : Nat × Nat} {h : zH} {Q : zQ} {p0 : Nat} {p1 : Int32} {p2 : Int32} {p3 : Int64} {p5 : Int64} {p7 : Int32} {p8 : Int64} (K : ∃ F1, h.2 p0 = zO 10 F1 ∧ ∃ x2, F1 0 = Value.ref x2 ∧ (zW d m_Mo_at h.1 0 [Value.int p7, Value.int p2] [] h (fun r3 h4 => ∃ x5, r3 = some (Value.int x5) ∧ (∃ n6 f7, h4.2 x2 = zI 0 n6 f7 ∧ zIn x5 n6 ∧ (∃ F8, h4.2 p0 = zO 10 F8 ∧ ∃ x9, F8 15 = Value.long x9 ∧ ((∃ F10, h4.2 p0 = zO 10 F10 ∧ ∀ h11, h11 = zP h4 p0 (zO 10 (zU F10 15 (Value.long (x9 + (1 : Int64))))) → (∃ F12, h11.2 p0 = zO 10 F12 ∧ ∃ x13, F12 16 = Value.long x13 ∧ ((∃ F14, h11.2 p0 = zO 10 F14 ∧ ∀ h15, h15 = zP h11 p0 (zO 10 (zU F14 16 (Value.long (x13 + p8)))) → (∃ F16, h15.2 p0 = zO 10 F16 ∧ ∃ x17, F16 17 = Value.long x17 ∧ ((∃ F18, h15.2 p0 = zO 10 F18 ∧ ∀ h19, h19 = zP h15 p0 (zO 10 (zU F18 17 (Value.long (x17 + ((f7 x5.toNatClampNeg).toInt64))))) → (zW (d + 1) m_Mo_sums e 23 [Value.ref p0, Value.int p1, Value.int p2, Value.long (p3 + (p8 * p8)), zD, Value.long (p5 + (p8 * ((f7 x5.toNatClampNeg).toInt64))), zD, Value.int (p7 + 1), zD, zD, zD, zD] [] h19 Q)))))))))))))) : zW (d + 1) m_Mo_sums e 64 [Value.ref p0, Value.int p1, Value.int p2, Value.long p3, zD, Value.long p5, zD, Value.int p7, Value.long p8, zD, zD, zD] [] h Q := zWg_run (C := zc_Mo_sums) (B := (0, 0)) rfl rfl [23, 64] 40 64 _ _ _ K
set_option maxRecDepth 100000 in
theorem b_Mo_den_0 {d : Nat} {e : Nat × Nat} {h : zH} {Q : zQ} {p0 : Nat} (K : ∃ F1, h.2 p0 = zO 10 F1 ∧ ∃ x2, F1 15 = Value.long x2 ∧ (∃ F3, h.2 p0 = zO 10 F3 ∧ ∃ x4, F3 18 = Value.long x4 ∧ (Q (some (Value.long (x2 * x4))) h))) : zW (d + 1) m_Mo_den e 0 [Value.ref p0] [] h Q := zWg_run (C := zc_Mo_den) (B := (0, 0)) rfl rfl [] 6 0 _ _ _ K
set_option maxRecDepth 100000 in
theorem b_Mo_farOf_0 {d : Nat} {e : Nat × Nat} {h : zH} {Q : zQ} {p0 : Nat} {p1 : Int32} {p2 : Int32} {p3 : Int32} (K : ∃ F1, h.2 p0 = zO 10 F1 ∧ ∃ x2, F1 0 = Value.ref x2 ∧ (zW d m_Mo_at h.1 0 [Value.int p1, Value.int p3] [] h (fun r3 h4 => ∃ x5, r3 = some (Value.int x5) ∧ (∃ n6 f7, h4.2 x2 = zI 0 n6 f7 ∧ zIn x5 n6 ∧ (∃ F8, h4.2 p0 = zO 10 F8 ∧ ∃ x9, F8 15 = Value.long x9 ∧ (∃ F10, h4.2 p0 = zO 10 F10 ∧ ∃ x11, F10 18 = Value.long x11 ∧ (∃ F12, h4.2 p0 = zO 10 F12 ∧ ∃ x13, F12 17 = Value.long x13 ∧ (∃ F14, h4.2 p0 = zO 10 F14 ∧ ∃ x15, F14 18 = Value.long x15 ∧ (∃ F16, h4.2 p0 = zO 10 F16 ∧ ∃ x17, F16 19 = Value.long x17 ∧ (∃ F18, h4.2 p0 = zO 10 F18 ∧ ∃ x19, F18 15 = Value.long x19 ∧ (∃ F20, h4.2 p0 = zO 10 F20 ∧ ∃ x21, F20 0 = Value.ref x21 ∧ (zW d m_Mo_at h4.1 0 [Value.int p1, Value.int p2] [] h4 (fun r22 h23 => ∃ x24, r22 = some (Value.int x24) ∧ (∃ n25 f26, h23.2 x21 = zI 0 n25 f26 ∧ zIn x24 n25 ∧ (∃ F27, h23.2 p0 = zO 10 F27 ∧ ∃ x28, F27 16 = Value.long x28 ∧ ((if 0 ≤ (lg_cmp ((((((f7 x5.toNatClampNeg).toInt64) * x9) * x11) - (x13 * x15)) - (x17 * ((x19 * ((f26 x24.toNatClampNeg).toInt64)) - x28))) (0 : Int64)) then Q (some (Value.long ((((((f7 x5.toNatClampNeg).toInt64) * x9) * x11) - (x13 * x15)) - (x17 * ((x19 * ((f26 x24.toNatClampNeg).toInt64)) - x28))))) h23 else Q (some (Value.long (-((((((f7 x5.toNatClampNeg).toInt64) * x9) * x11) - (x13 * x15)) - (x17 * ((x19 * ((f26 x24.toNatClampNeg).toInt64)) - x28)))))) h23))))))))))))))))) : zW (d + 1) m_Mo_farOf e 0 [Value.ref p0, Value.int p1, Value.int p2, Value.int p3, zD, zD] [] h Q := zWg_run (C := zc_Mo_farOf) (B := (0, 0)) rfl rfl [] 45 0 _ _ _ K
set_option maxRecDepth 100000 in
theorem b_Mo_findsFarthest_0 {d : Nat} {e : Nat × Nat} {h : zH} {Q : zQ} {p0 : Nat} {p1 : Int32} {p2 : Int32} (K : (∃ F1, h.2 p0 = zO 10 F1 ∧ ∀ h2, h2 = zP h p0 (zO 10 (zU F1 20 (Value.int (-4 : Int32)))) → ((∃ F3, h2.2 p0 = zO 10 F3 ∧ ∀ h4, h4 = zP h2 p0 (zO 10 (zU F3 21 (Value.long (-1 : Int64)))) → (zW (d + 1) m_Mo_findsFarthest e 15 [Value.ref p0, Value.int p1, Value.int p2, Value.int (0 : Int32)] [] h4 Q))))) : zW (d + 1) m_Mo_findsFarthest e 0 [Value.ref p0, Value.int p1, Value.int p2, zD] [] h Q := zWg_run (C := zc_Mo_findsFarthest) (B := (0, 0)) rfl rfl [15] 8 0 _ _ _ K
set_option maxRecDepth 100000 in
theorem b_Mo_findsFarthest_15 {d : Nat} {e : Nat × Nat} {h : zH} {Q : zQ} {p0 : Nat} {p1 : Int32} {p2 : Int32} {p3 : Int32} (K : (if (16 : Int32) ≤ p3 then Q none h else ∃ F1, h.2 p0 = zO 10 F1 ∧ ∃ x2, F1 22 = Value.ref x2 ∧ (∃ n3 f4, h.2 x2 = zI 1 n3 f4 ∧ zIn p3 n3 ∧ ((if (f4 p3.toNatClampNeg) = 0 then zW (d + 1) m_Mo_findsFarthest e 15 [Value.ref p0, Value.int p1, Value.int p2, Value.int (p3 + 1)] [] h Q else ∃ F5, h.2 p0 = zO 10 F5 ∧ ∃ x6, F5 23 = Value.ref x6 ∧ (∃ n7 f8, h.2 x6 = zI 0 n7 f8 ∧ zIn p3 n7 ∧ ((if (f8 p3.toNatClampNeg) = 0 then (∃ F22, h.2 p0 = zO 10 F22) ∧ zW d m_Mo_farOf h.1 0 [Value.ref p0, Value.int p3, Value.int p1, Value.int p2, zD, zD] [] h (fun r9 h10 => ∃ x11, r9 = some (Value.long x11) ∧ (∃ F12, h10.2 p0 = zO 10 F12 ∧ ∃ x13, F12 21 = Value.long x13 ∧ ((if (lg_cmp x11 x13) ≤ 0 then zW (d + 1) m_Mo_findsFarthest e 15 [Value.ref p0, Value.int p1, Value.int p2, Value.int (p3 + 1)] [] h10 Q else (∃ F14, h10.2 p0 = zO 10 F14 ∧ ∀ h15, h15 = zP h10 p0 (zO 10 (zU F14 20 (Value.int p3))) → ((∃ F21, h15.2 p0 = zO 10 F21) ∧ zW d m_Mo_farOf h15.1 0 [Value.ref p0, Value.int p3, Value.int p1, Value.int p2, zD, zD] [] h15 (fun r16 h17 => ∃ x18, r16 = some (Value.long x18) ∧ ((∃ F19, h17.2 p0 = zO 10 F19 ∧ ∀ h20, h20 = zP h17 p0 (zO 10 (zU F19 21 (Value.long x18))) → (zW (d + 1) m_Mo_findsFarthest e 15 [Value.ref p0, Value.int p1, Value.int p2, Value.int (p3 + 1)] [] h20 Q)))))))))) else zW (d + 1) m_Mo_findsFarthest e 15 [Value.ref p0, Value.int p1, Value.int p2, Value.int (p3 + 1)] [] h Q)))))))) : zW (d + 1) m_Mo_findsFarthest e 15 [Value.ref p0, Value.int p1, Value.int p2, Value.int p3] [] h Q := zWg_run (C := zc_Mo_findsFarthest) (B := (0, 0)) rfl rfl [15] 34 15 _ _ _ K
set_option maxRecDepth 100000 in
theorem b_Mo_fits_0 {d : Nat} {e : Nat × Nat} {h : zH} {Q : zQ} {p0 : Nat} {p1 : Int32} {p2 : Int32} (K : (∃ F1, h.2 p0 = zO 10 F1 ∧ ∀ h2, h2 = zP h p0 (zO 10 (zU F1 24 (Value.int (0 : Int32)))) → (zW (d + 1) m_Mo_fits e 7 [Value.ref p0, Value.int p1, Value.int p2, Value.int (0 : Int32)] [] h2 Q))) : zW (d + 1) m_Mo_fits e 0 [Value.ref p0, Value.int p1, Value.int p2, zD] [] h Q := zWg_run (C := zc_Mo_fits) (B := (0, 0)) rfl rfl [7, 73, 126] 5 0 _ _ _ K
set_option maxRecDepth 100000 in
theorem b_Mo_fits_7 {d : Nat} {e : Nat × Nat} {h : zH} {Q : zQ} {p0 : Nat} {p1 : Int32} {p2 : Int32} {p3 : Int32} (K : (if (16 : Int32) ≤ p3 then (∃ F1, h.2 p0 = zO 10 F1 ∧ ∀ h2, h2 = zP h p0 (zO 10 (zU F1 14 (Value.int (-4 : Int32)))) → (zW (d + 1) m_Mo_fits e 73 [Value.ref p0, Value.int p1, Value.int p2, zD] [] h2 Q)) else ∃ F3, h.2 p0 = zO 10 F3 ∧ ∃ x4, F3 22 = Value.ref x4 ∧ (∃ F5, h.2 p0 = zO 10 F5 ∧ ∃ x6, F5 0 = Value.ref x6 ∧ (zW d m_Mo_at h.1 0 [Value.int p3, Value.int p1] [] h (fun r7 h8 => ∃ x9, r7 = some (Value.int x9) ∧ (∃ n10 f11, h8.2 x6 = zI 0 n10 f11 ∧ zIn x9 n10 ∧ ((if (f11 x9.toNatClampNeg) = (-4 : Int32) then ((0 : Int32) = 0 ∨ (0 : Int32) = 1) ∧ (∃ n12 f13, h8.2 x4 = zI 1 n12 f13 ∧ zIn p3 n12 ∧ ∀ h14, h14 = zP h8 x4 (zI 1 n12 (zU f13 p3.toNatClampNeg (0 : Int32))) → (∃ F15, h14.2 p0 = zO 10 F15 ∧ ∃ x16, F15 23 = Value.ref x16 ∧ ((∃ n17 f18, h14.2 x16 = zI 0 n17 f18 ∧ zIn p3 n17 ∧ ∀ h19, h19 = zP h14 x16 (zI 0 n17 (zU f18 p3.toNatClampNeg (0 : Int32))) → (zW (d + 1) m_Mo_fits e 7 [Value.ref p0, Value.int p1, Value.int p2, Value.int (p3 + 1)] [] h19 Q))))) else ∃ F20, h8.2 p0 = zO 10 F20 ∧ ∃ x21, F20 0 = Value.ref x21 ∧ (zW d m_Mo_at h8.1 0 [Value.int p3, Value.int p2] [] h8 (fun r22 h23 => ∃ x24, r22 = some (Value.int x24) ∧ (∃ n25 f26, h23.2 x21 = zI 0 n25 f26 ∧ zIn x24 n25 ∧ ((if (f26 x24.toNatClampNeg) = (-4 : Int32) then ((0 : Int32) = 0 ∨ (0 : Int32) = 1) ∧ (∃ n27 f28, h23.2 x4 = zI 1 n27 f28 ∧ zIn p3 n27 ∧ ∀ h29, h29 = zP h23 x4 (zI 1 n27 (zU f28 p3.toNatClampNeg (0 : Int32))) → (∃ F30, h29.2 p0 = zO 10 F30 ∧ ∃ x31, F30 23 = Value.ref x31 ∧ ((∃ n32 f33, h29.2 x31 = zI 0 n32 f33 ∧ zIn p3 n32 ∧ ∀ h34, h34 = zP h29 x31 (zI 0 n32 (zU f33 p3.toNatClampNeg (0 : Int32))) → (zW (d + 1) m_Mo_fits e 7 [Value.ref p0, Value.int p1, Value.int p2, Value.int (p3 + 1)] [] h34 Q))))) else ((1 : Int32) = 0 ∨ (1 : Int32) = 1) ∧ (∃ n35 f36, h23.2 x4 = zI 1 n35 f36 ∧ zIn p3 n35 ∧ ∀ h37, h37 = zP h23 x4 (zI 1 n35 (zU f36 p3.toNatClampNeg (1 : Int32))) → (∃ F38, h37.2 p0 = zO 10 F38 ∧ ∃ x39, F38 23 = Value.ref x39 ∧ ((∃ n40 f41, h37.2 x39 = zI 0 n40 f41 ∧ zIn p3 n40 ∧ ∀ h42, h42 = zP h37 x39 (zI 0 n40 (zU f41 p3.toNatClampNeg (0 : Int32))) → (zW (d + 1) m_Mo_fits e 7 [Value.ref p0, Value.int p1, Value.int p2, Value.int (p3 + 1)] [] h42 Q)))))))))))))))))) : zW (d + 1) m_Mo_fits e 7 [Value.ref p0, Value.int p1, Value.int p2, Value.int p3] [] h Q := zWg_run (C := zc_Mo_fits) (B := (0, 0)) rfl rfl [7, 73, 126] 32 7 _ _ _ K
set_option maxRecDepth 100000 in
theorem b_Mo_fits_73 {d : Nat} {e : Nat × Nat} {h : zH} {Q : zQ} {p0 : Nat} {p1 : Int32} {p2 : Int32} (K : ∃ F1, h.2 p0 = zO 10 F1 ∧ ∃ x2, F1 14 = Value.int x2 ∧ ((if x2 = (-4 : Int32) then (∃ F20, h.2 p0 = zO 10 F20) ∧ zW d m_Mo_sums h.1 0 [Value.ref p0, Value.int p1, Value.int p2, zD, zD, zD, zD, zD, zD, zD, zD, zD] [] h (fun r3 h4 => r3 = none ∧ (∃ F5, h4.2 p0 = zO 10 F5 ∧ ∃ x6, F5 15 = Value.long x6 ∧ (∃ F7, h4.2 p0 = zO 10 F7 ∧ ∃ x8, F7 0 = Value.ref x8 ∧ (∃ n9 f10, h4.2 x8 = zI 0 n9 f10 ∧ zIn (2 : Int32) n9 ∧ ((if (lg_cmp x6 ((f10 (2 : Int32).toNatClampNeg).toInt64)) < 0 then (∃ F11, h4.2 p0 = zO 10 F11 ∧ ∀ h12, h12 = zP h4 p0 (zO 10 (zU F11 14 (Value.int (0 : Int32)))) → (zW (d + 1) m_Mo_fits e 73 [Value.ref p0, Value.int p1, Value.int p2, zD] [] h12 Q)) else ∃ F13, h4.2 p0 = zO 10 F13 ∧ ∃ x14, F13 18 = Value.long x14 ∧ ((if (lg_cmp x14 (0 : Int64)) = 0 then (∃ F15, h4.2 p0 = zO 10 F15 ∧ ∀ h16, h16 = zP h4 p0 (zO 10 (zU F15 14 (Value.int (0 : Int32)))) → (zW (d + 1) m_Mo_fits e 73 [Value.ref p0, Value.int p1, Value.int p2, zD] [] h16 Q)) else (∃ F19, h4.2 p0 = zO 10 F19) ∧ zW d m_Mo_findsFarthest h4.1 0 [Value.ref p0, Value.int p1, Value.int p2, zD] [] h4 (fun r17 h18 => r17 = none ∧ (zW (d + 1) m_Mo_fits e 126 [Value.ref p0, Value.int p1, Value.int p2, zD] [] h18 Q)))))))))) else Q none h))) : zW (d + 1) m_Mo_fits e 73 [Value.ref p0, Value.int p1, Value.int p2, zD] [] h Q := zWg_run (C := zc_Mo_fits) (B := (0, 0)) rfl rfl [7, 73, 126] 26 73 _ _ _ K
set_option maxRecDepth 100000 in
theorem b_Mo_fits_126 {d : Nat} {e : Nat × Nat} {h : zH} {Q : zQ} {p0 : Nat} {p1 : Int32} {p2 : Int32} (K : ∃ F1, h.2 p0 = zO 10 F1 ∧ ∃ x2, F1 21 = Value.long x2 ∧ (∃ F3, h.2 p0 = zO 10 F3 ∧ ∃ x4, F3 0 = Value.ref x4 ∧ (∃ n5 f6, h.2 x4 = zI 0 n5 f6 ∧ zIn (1 : Int32) n5 ∧ ((∃ F33, h.2 p0 = zO 10 F33) ∧ zW d m_Mo_den h.1 0 [Value.ref p0] [] h (fun r7 h8 => ∃ x9, r7 = some (Value.long x9) ∧ ((if 0 < (lg_cmp x2 (((f6 (1 : Int32).toNatClampNeg).toInt64) * x9)) then ∃ F10, h8.2 p0 = zO 10 F10 ∧ ∃ x11, F10 15 = Value.long x11 ∧ (∃ F12, h8.2 p0 = zO 10 F12 ∧ ∃ x13, F12 0 = Value.ref x13 ∧ (∃ n14 f15, h8.2 x13 = zI 0 n14 f15 ∧ zIn (2 : Int32) n14 ∧ ((if (lg_cmp x11 ((f15 (2 : Int32).toNatClampNeg).toInt64)) = 0 then (∃ F16, h8.2 p0 = zO 10 F16 ∧ ∀ h17, h17 = zP h8 p0 (zO 10 (zU F16 14 (Value.int (1 : Int32)))) → (zW (d + 1) m_Mo_fits e 73 [Value.ref p0, Value.int p1, Value.int p2, zD] [] h17 Q)) else ∃ F18, h8.2 p0 = zO 10 F18 ∧ ∃ x19, F18 24 = Value.int x19 ∧ ((∃ F20, h8.2 p0 = zO 10 F20 ∧ ∀ h21, h21 = zP h8 p0 (zO 10 (zU F20 24 (Value.int (x19 + (1 : Int32))))) → (∃ F22, h21.2 p0 = zO 10 F22 ∧ ∃ x23, F22 23 = Value.ref x23 ∧ (∃ F24, h21.2 p0 = zO 10 F24 ∧ ∃ x25, F24 20 = Value.int x25 ∧ (∃ F26, h21.2 p0 = zO 10 F26 ∧ ∃ x27, F26 24 = Value.int x27 ∧ ((∃ n28 f29, h21.2 x23 = zI 0 n28 f29 ∧ zIn x25 n28 ∧ ∀ h30, h30 = zP h21 x23 (zI 0 n28 (zU f29 x25.toNatClampNeg x27)) → (zW (d + 1) m_Mo_fits e 73 [Value.ref p0, Value.int p1, Value.int p2, zD] [] h30 Q)))))))))))) else (∃ F31, h8.2 p0 = zO 10 F31 ∧ ∀ h32, h32 = zP h8 p0 (zO 10 (zU F31 14 (Value.int (2 : Int32)))) → (zW (d + 1) m_Mo_fits e 73 [Value.ref p0, Value.int p1, Value.int p2, zD] [] h32 Q))))))))) : zW (d + 1) m_Mo_fits e 126 [Value.ref p0, Value.int p1, Value.int p2, zD] [] h Q := zWg_run (C := zc_Mo_fits) (B := (0, 0)) rfl rfl [7, 73, 126] 35 126 _ _ _ K
set_option maxRecDepth 100000 in
theorem b_Mo_upBy_0 {d : Nat} {e : Nat × Nat} {h : zH} {Q : zQ} {p0 : Int64} {p2 : Int64} (K : ¬ p2 = 0 ∧ (Q (some (Value.long (((p0 + p2) - (1 : Int64)) / p2))) h)) : zW (d + 1) m_Mo_upBy e 0 [Value.long p0, zD, Value.long p2, zD] [] h Q := zWg_run (C := zc_Mo_upBy) (B := (0, 0)) rfl rfl [] 8 0 _ _ _ K
set_option maxRecDepth 100000 in
theorem b_Mo_costOfLine_0 {d : Nat} {e : Nat × Nat} {h : zH} {Q : zQ} {p0 : Nat} (K : ∃ F1, h.2 p0 = zO 10 F1 ∧ ∃ x2, F1 14 = Value.int x2 ∧ ((if x2 = (2 : Int32) then ∃ F3, h.2 p0 = zO 10 F3 ∧ ∃ x4, F3 21 = Value.long x4 ∧ ((∃ F11, h.2 p0 = zO 10 F11) ∧ zW d m_Mo_den h.1 0 [Value.ref p0] [] h (fun r5 h6 => ∃ x7, r5 = some (Value.long x7) ∧ (zW d m_Mo_upBy h6.1 0 [Value.long ((256 : Int64) * x4), zD, Value.long x7, zD] [] h6 (fun r8 h9 => ∃ x10, r8 = some (Value.long x10) ∧ (Q (some (Value.int (x10.toInt32 + (1 : Int32)))) h9))))) else Q (some (Value.int (-4 : Int32))) h))) : zW (d + 1) m_Mo_costOfLine e 0 [Value.ref p0] [] h Q := zWg_run (C := zc_Mo_costOfLine) (B := (0, 0)) rfl rfl [] 16 0 _ _ _ K
set_option maxRecDepth 100000 in
theorem b_Mo_areTwo_0 {d : Nat} {e : Nat × Nat} {h : zH} {Q : zQ} {p0 : Nat} {p1 : Int32} {p2 : Int32} (K : (∃ F8, h.2 p0 = zO 10 F8) ∧ zW d m_Mo_isClock h.1 0 [Value.ref p0, Value.int p1] [] h (fun r1 h2 => ∃ x3, r1 = some (Value.int x3) ∧ ((if x3 = 0 then (((0 : Int32) = 0 ∨ (0 : Int32) = 1) ∧ Q (some (Value.int (0 : Int32))) h2) else (∃ F7, h2.2 p0 = zO 10 F7) ∧ zW d m_Mo_isClock h2.1 0 [Value.ref p0, Value.int p2] [] h2 (fun r4 h5 => ∃ x6, r4 = some (Value.int x6) ∧ ((if x6 = 0 then (((0 : Int32) = 0 ∨ (0 : Int32) = 1) ∧ Q (some (Value.int (0 : Int32))) h5) else (if p1 = p2 then (((0 : Int32) = 0 ∨ (0 : Int32) = 1) ∧ Q (some (Value.int (0 : Int32))) h5) else (((1 : Int32) = 0 ∨ (1 : Int32) = 1) ∧ Q (some (Value.int (1 : Int32))) h5))))))))) : zW (d + 1) m_Mo_areTwo e 0 [Value.ref p0, Value.int p1, Value.int p2] [] h Q := zWg_run (C := zc_Mo_areTwo) (B := (0, 0)) rfl rfl [] 14 0 _ _ _ K
set_option maxRecDepth 100000 in
theorem b_Mo_line_0 {d : Nat} {e : Nat × Nat} {h : zH} {Q : zQ} {p0 : Nat} {p1 : Int32} {p2 : Int32} {p3 : Int32} (K : (∃ F23, h.2 p0 = zO 10 F23) ∧ zW d m_Mo_areTwo h.1 0 [Value.ref p0, Value.int p1, Value.int p2] [] h (fun r1 h2 => ∃ x3, r1 = some (Value.int x3) ∧ ((if x3 = 0 then Q (some (Value.int (-1 : Int32))) h2 else (∃ F22, h2.2 p0 = zO 10 F22) ∧ zW d m_Mo_fits h2.1 0 [Value.ref p0, Value.int p1, Value.int p2, zD] [] h2 (fun r4 h5 => r4 = none ∧ ((if p3 = 0 then (∃ F6, h5.2 p0 = zO 10 F6 ∧ ∃ x7, F6 14 = Value.int x7 ∧ (Q (some (Value.int x7)) h5)) else if p3 = 1 then (∃ F8, h5.2 p0 = zO 10 F8 ∧ ∃ x9, F8 14 = Value.int x9 ∧ ((if x9 = 0 then Q (some (Value.int (0 : Int32))) h5 else ∃ F10, h5.2 p0 = zO 10 F10 ∧ ∃ x11, F10 15 = Value.long x11 ∧ (Q (some (Value.int x11.toInt32)) h5)))) else if p3 = 2 then (∃ F12, h5.2 p0 = zO 10 F12 ∧ ∃ x13, F12 24 = Value.int x13 ∧ (Q (some (Value.int x13)) h5)) else if p3 = 3 then (∃ F14, h5.2 p0 = zO 10 F14 ∧ ∃ x15, F14 14 = Value.int x15 ∧ ((if x15 = 0 then Q (some (Value.int (-4 : Int32))) h5 else ∃ F16, h5.2 p0 = zO 10 F16 ∧ ∃ x17, F16 20 = Value.int x17 ∧ (Q (some (Value.int x17)) h5)))) else if p3 = 4 then ((∃ F21, h5.2 p0 = zO 10 F21) ∧ zW d m_Mo_costOfLine h5.1 0 [Value.ref p0] [] h5 (fun r18 h19 => ∃ x20, r18 = some (Value.int x20) ∧ (Q (some (Value.int x20)) h19))) else (Q (some (Value.int (-1 : Int32))) h5)))))))) : zW (d + 1) m_Mo_line e 0 [Value.ref p0, Value.int p1, Value.int p2, Value.int p3] [] h Q := zWg_run (C := zc_Mo_line) (B := (0, 0)) rfl rfl [] 18 0 _ _ _ K
set_option maxRecDepth 100000 in
theorem b_Mo_sum_0 {d : Nat} {e : Nat × Nat} {h : zH} {Q : zQ} {p0 : Nat} {p1 : Int32} {p2 : Int32} {p3 : Int32} (K : (∃ F24, h.2 p0 = zO 10 F24) ∧ zW d m_Mo_areTwo h.1 0 [Value.ref p0, Value.int p1, Value.int p2] [] h (fun r1 h2 => ∃ x3, r1 = some (Value.int x3) ∧ ((if x3 = 0 then Q (some (Value.long (-1 : Int64))) h2 else zW d m_Mo_in h2.1 0 [Value.long p3.toInt64, zD, Value.long (0 : Int64), zD, Value.long (5 : Int64), zD] [] h2 (fun r4 h5 => ∃ x6, r4 = some (Value.int x6) ∧ ((if x6 = 0 then Q (some (Value.long (-1 : Int64))) h5 else (∃ F23, h5.2 p0 = zO 10 F23) ∧ zW d m_Mo_fits h5.1 0 [Value.ref p0, Value.int p1, Value.int p2, zD] [] h5 (fun r7 h8 => r7 = none ∧ (∃ F9, h8.2 p0 = zO 10 F9 ∧ ∃ x10, F9 14 = Value.int x10 ∧ ((if x10 = 0 then Q (some (Value.long (-4 : Int64))) h8 else (if p3 = 0 then (∃ F11, h8.2 p0 = zO 10 F11 ∧ ∃ x12, F11 15 = Value.long x12 ∧ (Q (some (Value.long x12)) h8)) else if p3 = 1 then (∃ F13, h8.2 p0 = zO 10 F13 ∧ ∃ x14, F13 16 = Value.long x14 ∧ (Q (some (Value.long x14)) h8)) else if p3 = 2 then (∃ F15, h8.2 p0 = zO 10 F15 ∧ ∃ x16, F15 17 = Value.long x16 ∧ (Q (some (Value.long x16)) h8)) else if p3 = 3 then (∃ F17, h8.2 p0 = zO 10 F17 ∧ ∃ x18, F17 18 = Value.long x18 ∧ (Q (some (Value.long x18)) h8)) else if p3 = 4 then (∃ F19, h8.2 p0 = zO 10 F19 ∧ ∃ x20, F19 19 = Value.long x20 ∧ (Q (some (Value.long x20)) h8)) else (∃ F21, h8.2 p0 = zO 10 F21 ∧ ∃ x22, F21 21 = Value.long x22 ∧ (Q (some (Value.long x22)) h8)))))))))))))) : zW (d + 1) m_Mo_sum e 0 [Value.ref p0, Value.int p1, Value.int p2, Value.int p3] [] h Q := zWg_run (C := zc_Mo_sum) (B := (0, 0)) rfl rfl [] 23 0 _ _ _ K
set_option maxRecDepth 100000 in
theorem b_Mo_struck_0 {d : Nat} {e : Nat × Nat} {h : zH} {Q : zQ} {p0 : Nat} {p1 : Int32} {p2 : Int32} {p3 : Int32} (K : (∃ F7, h.2 p0 = zO 10 F7) ∧ zW d m_Mo_areTwo h.1 0 [Value.ref p0, Value.int p1, Value.int p2] [] h (fun r1 h2 => ∃ x3, r1 = some (Value.int x3) ∧ ((if x3 = 0 then Q (some (Value.int (-1 : Int32))) h2 else (if 0 ≤ p3 then (∃ F6, h2.2 p0 = zO 10 F6) ∧ zW d m_Mo_fits h2.1 0 [Value.ref p0, Value.int p1, Value.int p2, zD] [] h2 (fun r4 h5 => r4 = none ∧ (zW (d + 1) m_Mo_struck e 24 [Value.ref p0, zD, zD, Value.int p3, Value.int (0 : Int32)] [] h5 Q)) else Q (some (Value.int (-1 : Int32))) h2))))) : zW (d + 1) m_Mo_struck e 0 [Value.ref p0, Value.int p1, Value.int p2, Value.int p3, zD] [] h Q := zWg_run (C := zc_Mo_struck) (B := (0, 0)) rfl rfl [24] 13 0 _ _ _ K
set_option maxRecDepth 100000 in
theorem b_Mo_struck_24 {d : Nat} {e : Nat × Nat} {h : zH} {Q : zQ} {p0 : Nat} {p3 : Int32} {p4 : Int32} (K : (if (16 : Int32) ≤ p4 then Q (some (Value.int (-4 : Int32))) h else ∃ F1, h.2 p0 = zO 10 F1 ∧ ∃ x2, F1 24 = Value.int x2 ∧ ((if x2 ≤ p3 then zW (d + 1) m_Mo_struck e 24 [Value.ref p0, zD, zD, Value.int p3, Value.int (p4 + 1)] [] h Q else ∃ F3, h.2 p0 = zO 10 F3 ∧ ∃ x4, F3 23 = Value.ref x4 ∧ (∃ n5 f6, h.2 x4 = zI 0 n5 f6 ∧ zIn p4 n5 ∧ ((if (f6 p4.toNatClampNeg) = (p3 + (1 : Int32)) then Q (some (Value.int p4)) h else zW (d + 1) m_Mo_struck e 24 [Value.ref p0, zD, zD, Value.int p3, Value.int (p4 + 1)] [] h Q))))))) : zW (d + 1) m_Mo_struck e 24 [Value.ref p0, zD, zD, Value.int p3, Value.int p4] [] h Q := zWg_run (C := zc_Mo_struck) (B := (0, 0)) rfl rfl [24] 17 24 _ _ _ K
set_option maxRecDepth 100000 in
theorem b_Mo_far_0 {d : Nat} {e : Nat × Nat} {h : zH} {Q : zQ} {p0 : Nat} {p1 : Int32} {p2 : Int32} {p3 : Int32} (K : (∃ F27, h.2 p0 = zO 10 F27) ∧ zW d m_Mo_areTwo h.1 0 [Value.ref p0, Value.int p1, Value.int p2] [] h (fun r1 h2 => ∃ x3, r1 = some (Value.int x3) ∧ ((if x3 = 0 then Q (some (Value.long (-1 : Int64))) h2 else zW d m_Mo_isBeacon h2.1 0 [Value.int p3] [] h2 (fun r4 h5 => ∃ x6, r4 = some (Value.int x6) ∧ ((if x6 = 0 then Q (some (Value.long (-1 : Int64))) h5 else (∃ F26, h5.2 p0 = zO 10 F26) ∧ zW d m_Mo_fits h5.1 0 [Value.ref p0, Value.int p1, Value.int p2, zD] [] h5 (fun r7 h8 => r7 = none ∧ (∃ F9, h8.2 p0 = zO 10 F9 ∧ ∃ x10, F9 14 = Value.int x10 ∧ ((if x10 = 0 then Q (some (Value.long (-4 : Int64))) h8 else ∃ F11, h8.2 p0 = zO 10 F11 ∧ ∃ x12, F11 22 = Value.ref x12 ∧ (∃ n13 f14, h8.2 x12 = zI 1 n13 f14 ∧ zIn p3 n13 ∧ ((if (f14 p3.toNatClampNeg) = 0 then Q (some (Value.long (-4 : Int64))) h8 else (∃ F25, h8.2 p0 = zO 10 F25) ∧ zW d m_Mo_farOf h8.1 0 [Value.ref p0, Value.int p3, Value.int p1, Value.int p2, zD, zD] [] h8 (fun r15 h16 => ∃ x17, r15 = some (Value.long x17) ∧ ((∃ F24, h16.2 p0 = zO 10 F24) ∧ zW d m_Mo_den h16.1 0 [Value.ref p0] [] h16 (fun r18 h19 => ∃ x20, r18 = some (Value.long x20) ∧ (zW d m_Mo_upBy h19.1 0 [Value.long ((256 : Int64) * x17), zD, Value.long x20, zD] [] h19 (fun r21 h22 => ∃ x23, r21 = some (Value.long x23) ∧ (Q (some (Value.long x23)) h22)))))))))))))))))))) : zW (d + 1) m_Mo_far e 0 [Value.ref p0, Value.int p1, Value.int p2, Value.int p3] [] h Q := zWg_run (C := zc_Mo_far) (B := (0, 0)) rfl rfl [] 31 0 _ _ _ K
set_option maxRecDepth 100000 in
theorem b_Mo_findsCosts_0 {d : Nat} {e : Nat × Nat} {h : zH} {Q : zQ} {p0 : Nat} (K : zW (d + 1) m_Mo_findsCosts e 2 [Value.ref p0, Value.int (0 : Int32), zD] [] h Q) : zW (d + 1) m_Mo_findsCosts e 0 [Value.ref p0, zD, zD] [] h Q := zWg_run (C := zc_Mo_findsCosts) (B := (0, 0)) rfl rfl [2, 14] 2 0 _ _ _ K
set_option maxRecDepth 100000 in
theorem b_Mo_findsCosts_2 {d : Nat} {e : Nat × Nat} {h : zH} {Q : zQ} {p0 : Nat} {p1 : Int32} (K : ∃ F1, h.2 p0 = zO 10 F1 ∧ ∃ x2, F1 0 = Value.ref x2 ∧ (∃ n3 f4, h.2 x2 = zI 0 n3 f4 ∧ zIn (0 : Int32) n3 ∧ ((if (f4 (0 : Int32).toNatClampNeg) ≤ p1 then Q none h else zW (d + 1) m_Mo_findsCosts e 14 [Value.ref p0, Value.int p1, Value.int (0 : Int32)] [] h Q)))) : zW (d + 1) m_Mo_findsCosts e 2 [Value.ref p0, Value.int p1, zD] [] h Q := zWg_run (C := zc_Mo_findsCosts) (B := (0, 0)) rfl rfl [2, 14] 8 2 _ _ _ K
set_option maxRecDepth 100000 in
theorem b_Mo_findsCosts_14 {d : Nat} {e : Nat × Nat} {h : zH} {Q : zQ} {p0 : Nat} {p1 : Int32} {p2 : Int32} (K : ∃ F1, h.2 p0 = zO 10 F1 ∧ ∃ x2, F1 0 = Value.ref x2 ∧ (∃ n3 f4, h.2 x2 = zI 0 n3 f4 ∧ zIn (0 : Int32) n3 ∧ ((if (f4 (0 : Int32).toNatClampNeg) ≤ p2 then zW (d + 1) m_Mo_findsCosts e 2 [Value.ref p0, Value.int (p1 + 1), zD] [] h Q else ∃ F5, h.2 p0 = zO 10 F5 ∧ ∃ x6, F5 25 = Value.ref x6 ∧ ((∃ n7 f8, h.2 x6 = zI 0 n7 f8 ∧ zIn (((7 : Int32) * p1) + p2) n7 ∧ ∀ h9, h9 = zP h x6 (zI 0 n7 (zU f8 (((7 : Int32) * p1) + p2).toNatClampNeg (0 : Int32))) → ((if p1 = p2 then zW (d + 1) m_Mo_findsCosts e 14 [Value.ref p0, Value.int p1, Value.int (p2 + 1)] [] h9 Q else (∃ F26, h9.2 p0 = zO 10 F26) ∧ zW d m_Mo_fits h9.1 0 [Value.ref p0, Value.int p1, Value.int p2, zD] [] h9 (fun r10 h11 => r10 = none ∧ (∃ F12, h11.2 p0 = zO 10 F12 ∧ ∃ x13, F12 25 = Value.ref x13 ∧ (∃ F14, h11.2 p0 = zO 10 F14 ∧ ∃ x15, F14 14 = Value.int x15 ∧ ((if x15 = (2 : Int32) then (∃ F22, h11.2 p0 = zO 10 F22) ∧ zW d m_Mo_costOfLine h11.1 0 [Value.ref p0] [] h11 (fun r16 h17 => ∃ x18, r16 = some (Value.int x18) ∧ ((∃ n19 f20, h17.2 x13 = zI 0 n19 f20 ∧ zIn (((7 : Int32) * p1) + p2) n19 ∧ ∀ h21, h21 = zP h17 x13 (zI 0 n19 (zU f20 (((7 : Int32) * p1) + p2).toNatClampNeg x18)) → (zW (d + 1) m_Mo_findsCosts e 14 [Value.ref p0, Value.int p1, Value.int (p2 + 1)] [] h21 Q)))) else (∃ n23 f24, h11.2 x13 = zI 0 n23 f24 ∧ zIn (((7 : Int32) * p1) + p2) n23 ∧ ∀ h25, h25 = zP h11 x13 (zI 0 n23 (zU f24 (((7 : Int32) * p1) + p2).toNatClampNeg (0 : Int32))) → (zW (d + 1) m_Mo_findsCosts e 14 [Value.ref p0, Value.int p1, Value.int (p2 + 1)] [] h25 Q))))))))))))))) : zW (d + 1) m_Mo_findsCosts e 14 [Value.ref p0, Value.int p1, Value.int p2] [] h Q := zWg_run (C := zc_Mo_findsCosts) (B := (0, 0)) rfl rfl [2, 14] 39 14 _ _ _ K
set_option maxRecDepth 100000 in
theorem b_Mo_isLess_0 {d : Nat} {e : Nat × Nat} {h : zH} {Q : zQ} {p0 : Nat} {p1 : Int32} {p2 : Int32} (K : ∃ F1, h.2 p0 = zO 10 F1 ∧ ∃ x2, F1 25 = Value.ref x2 ∧ (∃ n3 f4, h.2 x2 = zI 0 n3 f4 ∧ zIn (((7 : Int32) * p1) + p2) n3 ∧ ((if (f4 (((7 : Int32) * p1) + p2).toNatClampNeg) = 0 then (((0 : Int32) = 0 ∨ (0 : Int32) = 1) ∧ Q (some (Value.int (0 : Int32))) h) else zW (d + 1) m_Mo_isLess e 16 [Value.ref p0, Value.int p1, Value.int p2, Value.int (f4 (((7 : Int32) * p1) + p2).toNatClampNeg), zD] [] h Q)))) : zW (d + 1) m_Mo_isLess e 0 [Value.ref p0, Value.int p1, Value.int p2, zD, zD] [] h Q := zWg_run (C := zc_Mo_isLess) (B := (0, 0)) rfl rfl [16] 13 0 _ _ _ K
set_option maxRecDepth 100000 in
theorem b_Mo_isLess_16 {d : Nat} {e : Nat × Nat} {h : zH} {Q : zQ} {p0 : Nat} {p1 : Int32} {p2 : Int32} {p3 : Int32} (K : ∃ F1, h.2 p0 = zO 10 F1 ∧ ∃ x2, F1 26 = Value.ref x2 ∧ (∃ n3 f4, h.2 x2 = zI 0 n3 f4 ∧ zIn p2 n3 ∧ ((if (f4 p2.toNatClampNeg) = (1000000000 : Int32) then (((0 : Int32) = 0 ∨ (0 : Int32) = 1) ∧ Q (some (Value.int (0 : Int32))) h) else ∃ F5, h.2 p0 = zO 10 F5 ∧ ∃ x6, F5 26 = Value.ref x6 ∧ (∃ n7 f8, h.2 x6 = zI 0 n7 f8 ∧ zIn p2 n7 ∧ (∃ F9, h.2 p0 = zO 10 F9 ∧ ∃ x10, F9 26 = Value.ref x10 ∧ (∃ n11 f12, h.2 x10 = zI 0 n11 f12 ∧ zIn p1 n11 ∧ ((if ((f8 p2.toNatClampNeg) + p3) < (f12 p1.toNatClampNeg) then (((1 : Int32) = 0 ∨ (1 : Int32) = 1) ∧ Q (some (Value.int (1 : Int32))) h) else ∃ F13, h.2 p0 = zO 10 F13 ∧ ∃ x14, F13 26 = Value.ref x14 ∧ (∃ n15 f16, h.2 x14 = zI 0 n15 f16 ∧ zIn p1 n15 ∧ ((if ((f8 p2.toNatClampNeg) + p3) = (f16 p1.toNatClampNeg) then ∃ F17, h.2 p0 = zO 10 F17 ∧ ∃ x18, F17 27 = Value.ref x18 ∧ (∃ n19 f20, h.2 x18 = zI 0 n19 f20 ∧ zIn p2 n19 ∧ (∃ F21, h.2 p0 = zO 10 F21 ∧ ∃ x22, F21 27 = Value.ref x22 ∧ (∃ n23 f24, h.2 x22 = zI 0 n23 f24 ∧ zIn p1 n23 ∧ ((if (f24 p1.toNatClampNeg) ≤ ((f20 p2.toNatClampNeg) + (1 : Int32)) then (((0 : Int32) = 0 ∨ (0 : Int32) = 1) ∧ Q (some (Value.int (0 : Int32))) h) else (((1 : Int32) = 0 ∨ (1 : Int32) = 1) ∧ Q (some (Value.int (1 : Int32))) h)))))) else (((0 : Int32) = 0 ∨ (0 : Int32) = 1) ∧ Q (some (Value.int (0 : Int32))) h))))))))))))) : zW (d + 1) m_Mo_isLess e 16 [Value.ref p0, Value.int p1, Value.int p2, Value.int p3, zD] [] h Q := zWg_run (C := zc_Mo_isLess) (B := (0, 0)) rfl rfl [16] 39 16 _ _ _ K
set_option maxRecDepth 100000 in
theorem b_Mo_findsLeast_0 {d : Nat} {e : Nat × Nat} {h : zH} {Q : zQ} {p0 : Nat} {p1 : Int32} (K : zW (d + 1) m_Mo_findsLeast e 2 [Value.ref p0, Value.int p1, Value.int (0 : Int32), zD, zD] [] h Q) : zW (d + 1) m_Mo_findsLeast e 0 [Value.ref p0, Value.int p1, zD, zD, zD] [] h Q := zWg_run (C := zc_Mo_findsLeast) (B := (0, 0)) rfl rfl [2, 40, 48, 61, 72] 2 0 _ _ _ K
set_option maxRecDepth 100000 in
theorem b_Mo_findsLeast_2 {d : Nat} {e : Nat × Nat} {h : zH} {Q : zQ} {p0 : Nat} {p1 : Int32} {p2 : Int32} (K : (if (7 : Int32) ≤ p2 then zW (d + 1) m_Mo_findsLeast e 40 [Value.ref p0, zD, Value.int (1 : Int32), zD, zD] [] h Q else ∃ F1, h.2 p0 = zO 10 F1 ∧ ∃ x2, F1 26 = Value.ref x2 ∧ ((if p2 = p1 then (∃ n3 f4, h.2 x2 = zI 0 n3 f4 ∧ zIn p2 n3 ∧ ∀ h5, h5 = zP h x2 (zI 0 n3 (zU f4 p2.toNatClampNeg (0 : Int32))) → (∃ F6, h5.2 p0 = zO 10 F6 ∧ ∃ x7, F6 27 = Value.ref x7 ∧ ((∃ n8 f9, h5.2 x7 = zI 0 n8 f9 ∧ zIn p2 n8 ∧ ∀ h10, h10 = zP h5 x7 (zI 0 n8 (zU f9 p2.toNatClampNeg (0 : Int32))) → (zW (d + 1) m_Mo_findsLeast e 2 [Value.ref p0, Value.int p1, Value.int (p2 + 1), zD, zD] [] h10 Q))))) else (∃ n11 f12, h.2 x2 = zI 0 n11 f12 ∧ zIn p2 n11 ∧ ∀ h13, h13 = zP h x2 (zI 0 n11 (zU f12 p2.toNatClampNeg (1000000000 : Int32))) → (∃ F14, h13.2 p0 = zO 10 F14 ∧ ∃ x15, F14 27 = Value.ref x15 ∧ ((∃ n16 f17, h13.2 x15 = zI 0 n16 f17 ∧ zIn p2 n16 ∧ ∀ h18, h18 = zP h13 x15 (zI 0 n16 (zU f17 p2.toNatClampNeg (0 : Int32))) → (zW (d + 1) m_Mo_findsLeast e 2 [Value.ref p0, Value.int p1, Value.int (p2 + 1), zD, zD] [] h18 Q))))))))) : zW (d + 1) m_Mo_findsLeast e 2 [Value.ref p0, Value.int p1, Value.int p2, zD, zD] [] h Q := zWg_run (C := zc_Mo_findsLeast) (B := (0, 0)) rfl rfl [2, 40, 48, 61, 72] 19 2 _ _ _ K
set_option maxRecDepth 100000 in
theorem b_Mo_findsLeast_40 {d : Nat} {e : Nat × Nat} {h : zH} {Q : zQ} {p0 : Nat} {p2 : Int32} (K : (if p2 = 0 then Q none h else zW (d + 1) m_Mo_findsLeast e 48 [Value.ref p0, zD, Value.int (0 : Int32), Value.int (0 : Int32), zD] [] h Q)) : zW (d + 1) m_Mo_findsLeast e 40 [Value.ref p0, zD, Value.int p2, zD, zD] [] h Q := zWg_run (C := zc_Mo_findsLeast) (B := (0, 0)) rfl rfl [2, 40, 48, 61, 72] 6 40 _ _ _ K
set_option maxRecDepth 100000 in
theorem b_Mo_findsLeast_48 {d : Nat} {e : Nat × Nat} {h : zH} {Q : zQ} {p0 : Nat} {p2 : Int32} {p3 : Int32} (K : ∃ F1, h.2 p0 = zO 10 F1 ∧ ∃ x2, F1 0 = Value.ref x2 ∧ (∃ n3 f4, h.2 x2 = zI 0 n3 f4 ∧ zIn (0 : Int32) n3 ∧ ((if (f4 (0 : Int32).toNatClampNeg) ≤ p3 then zW (d + 1) m_Mo_findsLeast e 40 [Value.ref p0, zD, Value.int p2, zD, zD] [] h Q else zW (d + 1) m_Mo_findsLeast e 61 [Value.ref p0, zD, Value.int p2, Value.int p3, Value.int (0 : Int32)] [] h Q)))) : zW (d + 1) m_Mo_findsLeast e 48 [Value.ref p0, zD, Value.int p2, Value.int p3, zD] [] h Q := zWg_run (C := zc_Mo_findsLeast) (B := (0, 0)) rfl rfl [2, 40, 48, 61, 72] 8 48 _ _ _ K
set_option maxRecDepth 100000 in
theorem b_Mo_findsLeast_61 {d : Nat} {e : Nat × Nat} {h : zH} {Q : zQ} {p0 : Nat} {p2 : Int32} {p3 : Int32} {p4 : Int32} (K : ∃ F1, h.2 p0 = zO 10 F1 ∧ ∃ x2, F1 0 = Value.ref x2 ∧ (∃ n3 f4, h.2 x2 = zI 0 n3 f4 ∧ zIn (0 : Int32) n3 ∧ ((if (f4 (0 : Int32).toNatClampNeg) ≤ p4 then zW (d + 1) m_Mo_findsLeast e 48 [Value.ref p0, zD, Value.int p2, Value.int (p3 + 1), zD] [] h Q else zW (d + 1) m_Mo_findsLeast e 72 [Value.ref p0, zD, Value.int p2, Value.int p3, Value.int p4] [] h Q)))) : zW (d + 1) m_Mo_findsLeast e 61 [Value.ref p0, zD, Value.int p2, Value.int p3, Value.int p4] [] h Q := zWg_run (C := zc_Mo_findsLeast) (B := (0, 0)) rfl rfl [2, 40, 48, 61, 72] 8 61 _ _ _ K
set_option maxRecDepth 100000 in
theorem b_Mo_findsLeast_72 {d : Nat} {e : Nat × Nat} {h : zH} {Q : zQ} {p0 : Nat} {p2 : Int32} {p3 : Int32} {p4 : Int32} (K : (∃ F26, h.2 p0 = zO 10 F26) ∧ zW d m_Mo_isLess h.1 0 [Value.ref p0, Value.int p3, Value.int p4, zD, zD] [] h (fun r1 h2 => ∃ x3, r1 = some (Value.int x3) ∧ ((if x3 = 0 then zW (d + 1) m_Mo_findsLeast e 61 [Value.ref p0, zD, Value.int p2, Value.int p3, Value.int (p4 + 1)] [] h2 Q else ∃ F4, h2.2 p0 = zO 10 F4 ∧ ∃ x5, F4 26 = Value.ref x5 ∧ (∃ F6, h2.2 p0 = zO 10 F6 ∧ ∃ x7, F6 26 = Value.ref x7 ∧ (∃ n8 f9, h2.2 x7 = zI 0 n8 f9 ∧ zIn p4 n8 ∧ (∃ F10, h2.2 p0 = zO 10 F10 ∧ ∃ x11, F10 25 = Value.ref x11 ∧ (∃ n12 f13, h2.2 x11 = zI 0 n12 f13 ∧ zIn (((7 : Int32) * p3) + p4) n12 ∧ ((∃ n14 f15, h2.2 x5 = zI 0 n14 f15 ∧ zIn p3 n14 ∧ ∀ h16, h16 = zP h2 x5 (zI 0 n14 (zU f15 p3.toNatClampNeg ((f9 p4.toNatClampNeg) + (f13 (((7 : Int32) * p3) + p4).toNatClampNeg)))) → (∃ F17, h16.2 p0 = zO 10 F17 ∧ ∃ x18, F17 27 = Value.ref x18 ∧ (∃ F19, h16.2 p0 = zO 10 F19 ∧ ∃ x20, F19 27 = Value.ref x20 ∧ (∃ n21 f22, h16.2 x20 = zI 0 n21 f22 ∧ zIn p4 n21 ∧ ((∃ n23 f24, h16.2 x18 = zI 0 n23 f24 ∧ zIn p3 n23 ∧ ∀ h25, h25 = zP h16 x18 (zI 0 n23 (zU f24 p3.toNatClampNeg ((f22 p4.toNatClampNeg) + (1 : Int32)))) → (zW (d + 1) m_Mo_findsLeast e 61 [Value.ref p0, zD, Value.int (1 : Int32), Value.int p3, Value.int (p4 + 1)] [] h25 Q)))))))))))))))) : zW (d + 1) m_Mo_findsLeast e 72 [Value.ref p0, zD, Value.int p2, Value.int p3, Value.int p4] [] h Q := zWg_run (C := zc_Mo_findsLeast) (B := (0, 0)) rfl rfl [2, 40, 48, 61, 72] 36 72 _ _ _ K
set_option maxRecDepth 100000 in
theorem b_Mo_findsChain_0 {d : Nat} {e : Nat × Nat} {h : zH} {Q : zQ} {p0 : Nat} {p1 : Int32} {p2 : Int32} (K : (∃ F19, h.2 p0 = zO 10 F19) ∧ zW d m_Mo_findsCosts h.1 0 [Value.ref p0, zD, zD] [] h (fun r1 h2 => r1 = none ∧ ((∃ F18, h2.2 p0 = zO 10 F18) ∧ zW d m_Mo_findsLeast h2.1 0 [Value.ref p0, Value.int p2, zD, zD, zD] [] h2 (fun r3 h4 => r3 = none ∧ ((∃ F5, h4.2 p0 = zO 10 F5 ∧ ∀ h6, h6 = zP h4 p0 (zO 10 (zU F5 29 (Value.int (0 : Int32)))) → (∃ F7, h6.2 p0 = zO 10 F7 ∧ ∃ x8, F7 26 = Value.ref x8 ∧ (∃ n9 f10, h6.2 x8 = zI 0 n9 f10 ∧ zIn p1 n9 ∧ ((if (f10 p1.toNatClampNeg) = (1000000000 : Int32) then Q none h6 else ∃ F11, h6.2 p0 = zO 10 F11 ∧ ∃ x12, F11 28 = Value.ref x12 ∧ ((∃ n13 f14, h6.2 x12 = zI 0 n13 f14 ∧ zIn (0 : Int32) n13 ∧ ∀ h15, h15 = zP h6 x12 (zI 0 n13 (zU f14 (0 : Int32).toNatClampNeg p1)) → ((∃ F16, h15.2 p0 = zO 10 F16 ∧ ∀ h17, h17 = zP h15 p0 (zO 10 (zU F16 29 (Value.int (1 : Int32)))) → (zW (d + 1) m_Mo_findsChain e 38 [Value.ref p0, zD, Value.int p2, zD, zD] [] h17 Q))))))))))))))) : zW (d + 1) m_Mo_findsChain e 0 [Value.ref p0, Value.int p1, Value.int p2, zD, zD] [] h Q := zWg_run (C := zc_Mo_findsChain) (B := (0, 0)) rfl rfl [38, 68, 95] 22 0 _ _ _ K
set_option maxRecDepth 100000 in
theorem b_Mo_findsChain_38 {d : Nat} {e : Nat × Nat} {h : zH} {Q : zQ} {p0 : Nat} {p2 : Int32} (K : ∃ F1, h.2 p0 = zO 10 F1 ∧ ∃ x2, F1 28 = Value.ref x2 ∧ (∃ F3, h.2 p0 = zO 10 F3 ∧ ∃ x4, F3 29 = Value.int x4 ∧ (∃ n5 f6, h.2 x2 = zI 0 n5 f6 ∧ zIn (x4 - (1 : Int32)) n5 ∧ ((if (f6 (x4 - (1 : Int32)).toNatClampNeg) = p2 then Q none h else ∃ F7, h.2 p0 = zO 10 F7 ∧ ∃ x8, F7 28 = Value.ref x8 ∧ (∃ F9, h.2 p0 = zO 10 F9 ∧ ∃ x10, F9 29 = Value.int x10 ∧ (∃ n11 f12, h.2 x8 = zI 0 n11 f12 ∧ zIn (x10 - (1 : Int32)) n11 ∧ (zW (d + 1) m_Mo_findsChain e 68 [Value.ref p0, zD, Value.int p2, Value.int (f12 (x10 - (1 : Int32)).toNatClampNeg), Value.int (0 : Int32)] [] h Q)))))))) : zW (d + 1) m_Mo_findsChain e 38 [Value.ref p0, zD, Value.int p2, zD, zD] [] h Q := zWg_run (C := zc_Mo_findsChain) (B := (0, 0)) rfl rfl [38, 68, 95] 19 38 _ _ _ K
set_option maxRecDepth 100000 in
theorem b_Mo_findsChain_68 {d : Nat} {e : Nat × Nat} {h : zH} {Q : zQ} {p0 : Nat} {p2 : Int32} {p3 : Int32} {p4 : Int32} (K : ∃ F1, h.2 p0 = zO 10 F1 ∧ ∃ x2, F1 25 = Value.ref x2 ∧ (∃ n3 f4, h.2 x2 = zI 0 n3 f4 ∧ zIn (((7 : Int32) * p3) + p4) n3 ∧ ((if (f4 (((7 : Int32) * p3) + p4).toNatClampNeg) = 0 then zW (d + 1) m_Mo_findsChain e 68 [Value.ref p0, zD, Value.int p2, Value.int p3, Value.int (p4 + 1)] [] h Q else ∃ F5, h.2 p0 = zO 10 F5 ∧ ∃ x6, F5 26 = Value.ref x6 ∧ (∃ n7 f8, h.2 x6 = zI 0 n7 f8 ∧ zIn p4 n7 ∧ ((if (f8 p4.toNatClampNeg) = (1000000000 : Int32) then zW (d + 1) m_Mo_findsChain e 68 [Value.ref p0, zD, Value.int p2, Value.int p3, Value.int (p4 + 1)] [] h Q else zW (d + 1) m_Mo_findsChain e 95 [Value.ref p0, zD, Value.int p2, Value.int p3, Value.int p4] [] h Q))))))) : zW (d + 1) m_Mo_findsChain e 68 [Value.ref p0, zD, Value.int p2, Value.int p3, Value.int p4] [] h Q := zWg_run (C := zc_Mo_findsChain) (B := (0, 0)) rfl rfl [38, 68, 95] 17 68 _ _ _ K
set_option maxRecDepth 100000 in
theorem b_Mo_findsChain_95 {d : Nat} {e : Nat × Nat} {h : zH} {Q : zQ} {p0 : Nat} {p2 : Int32} {p3 : Int32} {p4 : Int32} (K : ∃ F1, h.2 p0 = zO 10 F1 ∧ ∃ x2, F1 26 = Value.ref x2 ∧ (∃ n3 f4, h.2 x2 = zI 0 n3 f4 ∧ zIn p4 n3 ∧ (∃ F5, h.2 p0 = zO 10 F5 ∧ ∃ x6, F5 25 = Value.ref x6 ∧ (∃ n7 f8, h.2 x6 = zI 0 n7 f8 ∧ zIn (((7 : Int32) * p3) + p4) n7 ∧ (∃ F9, h.2 p0 = zO 10 F9 ∧ ∃ x10, F9 26 = Value.ref x10 ∧ (∃ n11 f12, h.2 x10 = zI 0 n11 f12 ∧ zIn p3 n11 ∧ ((if ((f4 p4.toNatClampNeg) + (f8 (((7 : Int32) * p3) + p4).toNatClampNeg)) = (f12 p3.toNatClampNeg) then ∃ F13, h.2 p0 = zO 10 F13 ∧ ∃ x14, F13 27 = Value.ref x14 ∧ (∃ n15 f16, h.2 x14 = zI 0 n15 f16 ∧ zIn p4 n15 ∧ (∃ F17, h.2 p0 = zO 10 F17 ∧ ∃ x18, F17 27 = Value.ref x18 ∧ (∃ n19 f20, h.2 x18 = zI 0 n19 f20 ∧ zIn p3 n19 ∧ ((if ((f16 p4.toNatClampNeg) + (1 : Int32)) = (f20 p3.toNatClampNeg) then ∃ F21, h.2 p0 = zO 10 F21 ∧ ∃ x22, F21 28 = Value.ref x22 ∧ (∃ F23, h.2 p0 = zO 10 F23 ∧ ∃ x24, F23 29 = Value.int x24 ∧ ((∃ n25 f26, h.2 x22 = zI 0 n25 f26 ∧ zIn x24 n25 ∧ ∀ h27, h27 = zP h x22 (zI 0 n25 (zU f26 x24.toNatClampNeg p4)) → (∃ F28, h27.2 p0 = zO 10 F28 ∧ ∃ x29, F28 29 = Value.int x29 ∧ ((∃ F30, h27.2 p0 = zO 10 F30 ∧ ∀ h31, h31 = zP h27 p0 (zO 10 (zU F30 29 (Value.int (x29 + (1 : Int32))))) → (zW (d + 1) m_Mo_findsChain e 38 [Value.ref p0, zD, Value.int p2, zD, zD] [] h31 Q))))))) else zW (d + 1) m_Mo_findsChain e 68 [Value.ref p0, zD, Value.int p2, Value.int p3, Value.int (p4 + 1)] [] h Q))))) else zW (d + 1) m_Mo_findsChain e 68 [Value.ref p0, zD, Value.int p2, Value.int p3, Value.int (p4 + 1)] [] h Q)))))))) : zW (d + 1) m_Mo_findsChain e 95 [Value.ref p0, zD, Value.int p2, Value.int p3, Value.int p4] [] h Q := zWg_run (C := zc_Mo_findsChain) (B := (0, 0)) rfl rfl [38, 68, 95] 42 95 _ _ _ K
set_option maxRecDepth 100000 in
theorem b_Mo_reaches_0 {d : Nat} {e : Nat × Nat} {h : zH} {Q : zQ} {p0 : Nat} {p1 : Int32} (K : zW (d + 1) m_Mo_reaches e 4 [Value.ref p0, Value.int p1, Value.int (0 : Int32), Value.int (0 : Int32)] [] h Q) : zW (d + 1) m_Mo_reaches e 0 [Value.ref p0, Value.int p1, zD, zD] [] h Q := zWg_run (C := zc_Mo_reaches) (B := (0, 0)) rfl rfl [4] 4 0 _ _ _ K
set_option maxRecDepth 100000 in
theorem b_Mo_reaches_4 {d : Nat} {e : Nat × Nat} {h : zH} {Q : zQ} {p0 : Nat} {p1 : Int32} {p2 : Int32} {p3 : Int32} (K : ∃ F1, h.2 p0 = zO 10 F1 ∧ ∃ x2, F1 0 = Value.ref x2 ∧ (∃ n3 f4, h.2 x2 = zI 0 n3 f4 ∧ zIn (0 : Int32) n3 ∧ ((if (f4 (0 : Int32).toNatClampNeg) ≤ p3 then Q (some (Value.int p2)) h else (∃ F17, h.2 p0 = zO 10 F17) ∧ zW d m_Mo_findsLeast h.1 0 [Value.ref p0, Value.int p3, zD, zD, zD] [] h (fun r5 h6 => r5 = none ∧ (∃ F7, h6.2 p0 = zO 10 F7 ∧ ∃ x8, F7 26 = Value.ref x8 ∧ (∃ n9 f10, h6.2 x8 = zI 0 n9 f10 ∧ zIn p1 n9 ∧ ((if (f10 p1.toNatClampNeg) = (1000000000 : Int32) then zW d m_Mo_flag h6.1 0 [Value.int (0 : Int32)] [] h6 (fun r11 h12 => ∃ x13, r11 = some (Value.int x13) ∧ (zW (d + 1) m_Mo_reaches e 4 [Value.ref p0, Value.int p1, Value.int (p2 + x13), Value.int (p3 + 1)] [] h12 Q)) else zW d m_Mo_flag h6.1 0 [Value.int (1 : Int32)] [] h6 (fun r14 h15 => ∃ x16, r14 = some (Value.int x16) ∧ (zW (d + 1) m_Mo_reaches e 4 [Value.ref p0, Value.int p1, Value.int (p2 + x16), Value.int (p3 + 1)] [] h15 Q))))))))))) : zW (d + 1) m_Mo_reaches e 4 [Value.ref p0, Value.int p1, Value.int p2, Value.int p3] [] h Q := zWg_run (C := zc_Mo_reaches) (B := (0, 0)) rfl rfl [4] 23 4 _ _ _ K
set_option maxRecDepth 100000 in
theorem b_Mo_reachable_0 {d : Nat} {e : Nat × Nat} {h : zH} {Q : zQ} {p0 : Nat} (K : (∃ F3, h.2 p0 = zO 10 F3) ∧ zW d m_Mo_findsCosts h.1 0 [Value.ref p0, zD, zD] [] h (fun r1 h2 => r1 = none ∧ (zW (d + 1) m_Mo_reachable e 8 [Value.ref p0, Value.int (0 : Int32), Value.int (0 : Int32)] [] h2 Q))) : zW (d + 1) m_Mo_reachable e 0 [Value.ref p0, zD, zD] [] h Q := zWg_run (C := zc_Mo_reachable) (B := (0, 0)) rfl rfl [8] 6 0 _ _ _ K
set_option maxRecDepth 100000 in
theorem b_Mo_reachable_8 {d : Nat} {e : Nat × Nat} {h : zH} {Q : zQ} {p0 : Nat} {p1 : Int32} {p2 : Int32} (K : ∃ F1, h.2 p0 = zO 10 F1 ∧ ∃ x2, F1 0 = Value.ref x2 ∧ (∃ n3 f4, h.2 x2 = zI 0 n3 f4 ∧ zIn (0 : Int32) n3 ∧ ((if (f4 (0 : Int32).toNatClampNeg) ≤ p2 then Q (some (Value.int p1)) h else (∃ F8, h.2 p0 = zO 10 F8) ∧ zW d m_Mo_reaches h.1 0 [Value.ref p0, Value.int p2, zD, zD] [] h (fun r5 h6 => ∃ x7, r5 = some (Value.int x7) ∧ (zW (d + 1) m_Mo_reachable e 8 [Value.ref p0, Value.int (p1 + (x7 - (1 : Int32))), Value.int (p2 + 1)] [] h6 Q)))))) : zW (d + 1) m_Mo_reachable e 8 [Value.ref p0, Value.int p1, Value.int p2] [] h Q := zWg_run (C := zc_Mo_reachable) (B := (0, 0)) rfl rfl [8] 16 8 _ _ _ K
set_option maxRecDepth 100000 in
theorem b_Mo_ofLines_0 {d : Nat} {e : Nat × Nat} {h : zH} {Q : zQ} {p0 : Nat} {p1 : Int32} (K : zW (d + 1) m_Mo_ofLines e 4 [Value.ref p0, Value.int p1, Value.int (0 : Int32), Value.int (0 : Int32), zD] [] h Q) : zW (d + 1) m_Mo_ofLines e 0 [Value.ref p0, Value.int p1, zD, zD, zD] [] h Q := zWg_run (C := zc_Mo_ofLines) (B := (0, 0)) rfl rfl [4, 17] 4 0 _ _ _ K
set_option maxRecDepth 100000 in
theorem b_Mo_ofLines_4 {d : Nat} {e : Nat × Nat} {h : zH} {Q : zQ} {p0 : Nat} {p1 : Int32} {p2 : Int32} {p3 : Int32} (K : ∃ F1, h.2 p0 = zO 10 F1 ∧ ∃ x2, F1 0 = Value.ref x2 ∧ (∃ n3 f4, h.2 x2 = zI 0 n3 f4 ∧ zIn (0 : Int32) n3 ∧ ((if (f4 (0 : Int32).toNatClampNeg) ≤ p3 then Q (some (Value.int p2)) h else zW (d + 1) m_Mo_ofLines e 17 [Value.ref p0, Value.int p1, Value.int p2, Value.int p3, Value.int (0 : Int32)] [] h Q)))) : zW (d + 1) m_Mo_ofLines e 4 [Value.ref p0, Value.int p1, Value.int p2, Value.int p3, zD] [] h Q := zWg_run (C := zc_Mo_ofLines) (B := (0, 0)) rfl rfl [4, 17] 8 4 _ _ _ K
set_option maxRecDepth 100000 in
theorem b_Mo_ofLines_17 {d : Nat} {e : Nat × Nat} {h : zH} {Q : zQ} {p0 : Nat} {p1 : Int32} {p2 : Int32} {p3 : Int32} {p4 : Int32} (K : ∃ F1, h.2 p0 = zO 10 F1 ∧ ∃ x2, F1 0 = Value.ref x2 ∧ (∃ n3 f4, h.2 x2 = zI 0 n3 f4 ∧ zIn (0 : Int32) n3 ∧ ((if (f4 (0 : Int32).toNatClampNeg) ≤ p4 then zW (d + 1) m_Mo_ofLines e 4 [Value.ref p0, Value.int p1, Value.int p2, Value.int (p3 + 1), zD] [] h Q else (if p3 = p4 then zW (d + 1) m_Mo_ofLines e 17 [Value.ref p0, Value.int p1, Value.int p2, Value.int p3, Value.int (p4 + 1)] [] h Q else (∃ F23, h.2 p0 = zO 10 F23) ∧ zW d m_Mo_fits h.1 0 [Value.ref p0, Value.int p3, Value.int p4, zD] [] h (fun r5 h6 => r5 = none ∧ ((if p1 = (7 : Int32) then ∃ F7, h6.2 p0 = zO 10 F7 ∧ ∃ x8, F7 24 = Value.int x8 ∧ (zW (d + 1) m_Mo_ofLines e 17 [Value.ref p0, Value.int p1, Value.int (p2 + x8), Value.int p3, Value.int (p4 + 1)] [] h6 Q) else ∃ F9, h6.2 p0 = zO 10 F9 ∧ ∃ x10, F9 14 = Value.int x10 ∧ ((if p1 = (4 : Int32) then (if x10 = (2 : Int32) then zW d m_Mo_flag h6.1 0 [Value.int (1 : Int32)] [] h6 (fun r11 h12 => ∃ x13, r11 = some (Value.int x13) ∧ (zW (d + 1) m_Mo_ofLines e 17 [Value.ref p0, Value.int p1, Value.int (p2 + x13), Value.int p3, Value.int (p4 + 1)] [] h12 Q)) else zW d m_Mo_flag h6.1 0 [Value.int (0 : Int32)] [] h6 (fun r14 h15 => ∃ x16, r14 = some (Value.int x16) ∧ (zW (d + 1) m_Mo_ofLines e 17 [Value.ref p0, Value.int p1, Value.int (p2 + x16), Value.int p3, Value.int (p4 + 1)] [] h15 Q))) else (if x10 = (1 : Int32) then zW d m_Mo_flag h6.1 0 [Value.int (1 : Int32)] [] h6 (fun r17 h18 => ∃ x19, r17 = some (Value.int x19) ∧ (zW (d + 1) m_Mo_ofLines e 17 [Value.ref p0, Value.int p1, Value.int (p2 + x19), Value.int p3, Value.int (p4 + 1)] [] h18 Q)) else zW d m_Mo_flag h6.1 0 [Value.int (0 : Int32)] [] h6 (fun r20 h21 => ∃ x22, r20 = some (Value.int x22) ∧ (zW (d + 1) m_Mo_ofLines e 17 [Value.ref p0, Value.int p1, Value.int (p2 + x22), Value.int p3, Value.int (p4 + 1)] [] h21 Q))))))))))))) : zW (d + 1) m_Mo_ofLines e 17 [Value.ref p0, Value.int p1, Value.int p2, Value.int p3, Value.int p4] [] h Q := zWg_run (C := zc_Mo_ofLines) (B := (0, 0)) rfl rfl [4, 17] 32 17 _ _ _ K
set_option maxRecDepth 100000 in
theorem b_Mo_goodOf_0 {d : Nat} {e : Nat × Nat} {h : zH} {Q : zQ} {p0 : Nat} {p1 : Int32} {p2 : Int32} (K : (∃ F3, h.2 p0 = zO 10 F3) ∧ zW d m_Mo_findsCosts h.1 0 [Value.ref p0, zD, zD] [] h (fun r1 h2 => r1 = none ∧ (zW (d + 1) m_Mo_goodOf e 9 [Value.ref p0, Value.int p1, Value.int p2, Value.int (0 : Int32), Value.int (0 : Int32)] [] h2 Q))) : zW (d + 1) m_Mo_goodOf e 0 [Value.ref p0, Value.int p1, Value.int p2, zD, zD] [] h Q := zWg_run (C := zc_Mo_goodOf) (B := (0, 0)) rfl rfl [9, 46] 6 0 _ _ _ K
set_option maxRecDepth 100000 in
theorem b_Mo_goodOf_9 {d : Nat} {e : Nat × Nat} {h : zH} {Q : zQ} {p0 : Nat} {p1 : Int32} {p2 : Int32} {p3 : Int32} {p4 : Int32} (K : ∃ F1, h.2 p0 = zO 10 F1 ∧ ∃ x2, F1 0 = Value.ref x2 ∧ (∃ n3 f4, h.2 x2 = zI 0 n3 f4 ∧ zIn (0 : Int32) n3 ∧ ((if (f4 (0 : Int32).toNatClampNeg) ≤ p4 then Q (some (Value.int p3)) h else ∃ F5, h.2 p0 = zO 10 F5 ∧ ∃ x6, F5 25 = Value.ref x6 ∧ ((if p2 = 0 then zW (d + 1) m_Mo_goodOf e 46 [Value.ref p0, Value.int p1, Value.int p2, zD, Value.int p4] [Value.int (((7 : Int32) * p4) + p1), Value.ref x6, Value.int p3] h Q else zW (d + 1) m_Mo_goodOf e 46 [Value.ref p0, Value.int p1, Value.int p2, zD, Value.int p4] [Value.int (((7 : Int32) * p1) + p4), Value.ref x6, Value.int p3] h Q)))))) : zW (d + 1) m_Mo_goodOf e 9 [Value.ref p0, Value.int p1, Value.int p2, Value.int p3, Value.int p4] [] h Q := zWg_run (C := zc_Mo_goodOf) (B := (0, 0)) rfl rfl [9, 46] 17 9 _ _ _ K
set_option maxRecDepth 100000 in
theorem b_Mo_goodOf_46 {d : Nat} {e : Nat × Nat} {h : zH} {Q : zQ} {p0 : Nat} {p1 : Int32} {p2 : Int32} {p4 : Int32} {s0 : Int32} {s1 : Nat} {s2 : Int32} (K : ∃ n1 f2, h.2 s1 = zI 0 n1 f2 ∧ zIn s0 n1 ∧ ((if (f2 s0.toNatClampNeg) ≤ 0 then zW d m_Mo_flag h.1 0 [Value.int (0 : Int32)] [] h (fun r3 h4 => ∃ x5, r3 = some (Value.int x5) ∧ (zW (d + 1) m_Mo_goodOf e 9 [Value.ref p0, Value.int p1, Value.int p2, Value.int (s2 + x5), Value.int (p4 + 1)] [] h4 Q)) else zW d m_Mo_flag h.1 0 [Value.int (1 : Int32)] [] h (fun r6 h7 => ∃ x8, r6 = some (Value.int x8) ∧ (zW (d + 1) m_Mo_goodOf e 9 [Value.ref p0, Value.int p1, Value.int p2, Value.int (s2 + x8), Value.int (p4 + 1)] [] h7 Q))))) : zW (d + 1) m_Mo_goodOf e 46 [Value.ref p0, Value.int p1, Value.int p2, zD, Value.int p4] [Value.int s0, Value.ref s1, Value.int s2] h Q := zWg_run (C := zc_Mo_goodOf) (B := (0, 0)) rfl rfl [9, 46] 9 46 _ _ _ K
set_option maxRecDepth 100000 in
theorem b_Mo_clock_0 {d : Nat} {e : Nat × Nat} {h : zH} {Q : zQ} {p0 : Nat} {p1 : Int32} {p2 : Int32} (K : (∃ F26, h.2 p0 = zO 10 F26) ∧ zW d m_Mo_isClock h.1 0 [Value.ref p0, Value.int p1] [] h (fun r1 h2 => ∃ x3, r1 = some (Value.int x3) ∧ ((if x3 = 0 then Q (some (Value.int (-1 : Int32))) h2 else zW d m_Mo_in h2.1 0 [Value.long p2.toInt64, zD, Value.long (0 : Int64), zD, Value.long (3 : Int64), zD] [] h2 (fun r4 h5 => ∃ x6, r4 = some (Value.int x6) ∧ ((if x6 = 0 then Q (some (Value.int (-1 : Int32))) h5 else (if p2 = 0 then (∃ F10, h5.2 p0 = zO 10 F10) ∧ zW d m_Mo_stampsOf h5.1 0 [Value.ref p0, Value.int p1, zD, zD] [] h5 (fun r7 h8 => ∃ x9, r7 = some (Value.int x9) ∧ (Q (some (Value.int x9)) h8)) else (if (3 : Int32) ≤ p2 then (∃ F17, h5.2 p0 = zO 10 F17) ∧ zW d m_Mo_findsCosts h5.1 0 [Value.ref p0, zD, zD] [] h5 (fun r11 h12 => r11 = none ∧ ((∃ F16, h12.2 p0 = zO 10 F16) ∧ zW d m_Mo_reaches h12.1 0 [Value.ref p0, Value.int p1, zD, zD] [] h12 (fun r13 h14 => ∃ x15, r13 = some (Value.int x15) ∧ (Q (some (Value.int x15)) h14)))) else (if p2 = (1 : Int32) then (∃ F21, h5.2 p0 = zO 10 F21) ∧ zW d m_Mo_goodOf h5.1 0 [Value.ref p0, Value.int p1, Value.int (1 : Int32), zD, zD] [] h5 (fun r18 h19 => ∃ x20, r18 = some (Value.int x20) ∧ (Q (some (Value.int x20)) h19)) else (∃ F25, h5.2 p0 = zO 10 F25) ∧ zW d m_Mo_goodOf h5.1 0 [Value.ref p0, Value.int p1, Value.int (0 : Int32), zD, zD] [] h5 (fun r22 h23 => ∃ x24, r22 = some (Value.int x24) ∧ (Q (some (Value.int x24)) h23)))))))))))) : zW (d + 1) m_Mo_clock e 0 [Value.ref p0, Value.int p1, Value.int p2] [] h Q := zWg_run (C := zc_Mo_clock) (B := (0, 0)) rfl rfl [] 24 0 _ _ _ K
set_option maxRecDepth 100000 in
theorem b_Mo_cost_0 {d : Nat} {e : Nat × Nat} {h : zH} {Q : zQ} {p0 : Nat} {p1 : Int32} {p2 : Int32} (K : (∃ F22, h.2 p0 = zO 10 F22) ∧ zW d m_Mo_isClock h.1 0 [Value.ref p0, Value.int p1] [] h (fun r1 h2 => ∃ x3, r1 = some (Value.int x3) ∧ ((if x3 = 0 then Q (some (Value.int (-1 : Int32))) h2 else (∃ F21, h2.2 p0 = zO 10 F21) ∧ zW d m_Mo_isClock h2.1 0 [Value.ref p0, Value.int p2] [] h2 (fun r4 h5 => ∃ x6, r4 = some (Value.int x6) ∧ ((if x6 = 0 then Q (some (Value.int (-1 : Int32))) h5 else (∃ F20, h5.2 p0 = zO 10 F20) ∧ zW d m_Mo_findsCosts h5.1 0 [Value.ref p0, zD, zD] [] h5 (fun r7 h8 => r7 = none ∧ ((∃ F19, h8.2 p0 = zO 10 F19) ∧ zW d m_Mo_findsLeast h8.1 0 [Value.ref p0, Value.int p2, zD, zD, zD] [] h8 (fun r9 h10 => r9 = none ∧ (∃ F11, h10.2 p0 = zO 10 F11 ∧ ∃ x12, F11 26 = Value.ref x12 ∧ (∃ n13 f14, h10.2 x12 = zI 0 n13 f14 ∧ zIn p1 n13 ∧ ((if (f14 p1.toNatClampNeg) = (1000000000 : Int32) then Q (some (Value.int (-4 : Int32))) h10 else ∃ F15, h10.2 p0 = zO 10 F15 ∧ ∃ x16, F15 26 = Value.ref x16 ∧ (∃ n17 f18, h10.2 x16 = zI 0 n17 f18 ∧ zIn p1 n17 ∧ (Q (some (Value.int (f18 p1.toNatClampNeg))) h10)))))))))))))))) : zW (d + 1) m_Mo_cost e 0 [Value.ref p0, Value.int p1, Value.int p2] [] h Q := zWg_run (C := zc_Mo_cost) (B := (0, 0)) rfl rfl [] 24 0 _ _ _ K
set_option maxRecDepth 100000 in
theorem b_Mo_chain_0 {d : Nat} {e : Nat × Nat} {h : zH} {Q : zQ} {p0 : Nat} {p1 : Int32} {p2 : Int32} {p3 : Int32} (K : (∃ F17, h.2 p0 = zO 10 F17) ∧ zW d m_Mo_isClock h.1 0 [Value.ref p0, Value.int p1] [] h (fun r1 h2 => ∃ x3, r1 = some (Value.int x3) ∧ ((if x3 = 0 then Q (some (Value.int (-1 : Int32))) h2 else (∃ F16, h2.2 p0 = zO 10 F16) ∧ zW d m_Mo_isClock h2.1 0 [Value.ref p0, Value.int p2] [] h2 (fun r4 h5 => ∃ x6, r4 = some (Value.int x6) ∧ ((if x6 = 0 then Q (some (Value.int (-1 : Int32))) h5 else (if 0 ≤ p3 then (∃ F15, h5.2 p0 = zO 10 F15) ∧ zW d m_Mo_findsChain h5.1 0 [Value.ref p0, Value.int p1, Value.int p2, zD, zD] [] h5 (fun r7 h8 => r7 = none ∧ (∃ F9, h8.2 p0 = zO 10 F9 ∧ ∃ x10, F9 29 = Value.int x10 ∧ ((if x10 ≤ p3 then Q (some (Value.int (-4 : Int32))) h8 else ∃ F11, h8.2 p0 = zO 10 F11 ∧ ∃ x12, F11 28 = Value.ref x12 ∧ (∃ n13 f14, h8.2 x12 = zI 0 n13 f14 ∧ zIn p3 n13 ∧ (Q (some (Value.int (f14 p3.toNatClampNeg))) h8)))))) else Q (some (Value.int (-1 : Int32))) h5)))))))) : zW (d + 1) m_Mo_chain e 0 [Value.ref p0, Value.int p1, Value.int p2, Value.int p3] [] h Q := zWg_run (C := zc_Mo_chain) (B := (0, 0)) rfl rfl [] 24 0 _ _ _ K
set_option maxRecDepth 100000 in
theorem b_Mo_times_0 {d : Nat} {e : Nat × Nat} {h : zH} {Q : zQ} {p0 : Nat} {p1 : Int64} {p3 : Int64} (K : ∃ F1, h.2 p0 = zO 10 F1 ∧ ∃ x2, F1 31 = Value.int x2 ∧ ((if x2 = 0 then (if (lg_cmp p1 (0 : Int64)) = 0 then (((0 : Int32) = 0 ∨ (0 : Int32) = 1) ∧ (∃ F3, h.2 p0 = zO 10 F3 ∧ ∀ h4, h4 = zP h p0 (zO 10 (zU F3 31 (Value.int (0 : Int32)))) → (Q (some (Value.long (p1 * p3))) h4))) else ¬ p1 = 0 ∧ ((if (lg_cmp ((p1 * p3) / p1) p3) = 0 then (if (lg_cmp p1 (-1 : Int64)) = 0 then (if (lg_cmp p3 (-9223372036854775808 : Int64)) = 0 then (((1 : Int32) = 0 ∨ (1 : Int32) = 1) ∧ (∃ F5, h.2 p0 = zO 10 F5 ∧ ∀ h6, h6 = zP h p0 (zO 10 (zU F5 31 (Value.int (1 : Int32)))) → (Q (some (Value.long (p1 * p3))) h6))) else (((0 : Int32) = 0 ∨ (0 : Int32) = 1) ∧ (∃ F7, h.2 p0 = zO 10 F7 ∧ ∀ h8, h8 = zP h p0 (zO 10 (zU F7 31 (Value.int (0 : Int32)))) → (Q (some (Value.long (p1 * p3))) h8)))) else (((0 : Int32) = 0 ∨ (0 : Int32) = 1) ∧ (∃ F9, h.2 p0 = zO 10 F9 ∧ ∀ h10, h10 = zP h p0 (zO 10 (zU F9 31 (Value.int (0 : Int32)))) → (Q (some (Value.long (p1 * p3))) h10)))) else (((1 : Int32) = 0 ∨ (1 : Int32) = 1) ∧ (∃ F11, h.2 p0 = zO 10 F11 ∧ ∀ h12, h12 = zP h p0 (zO 10 (zU F11 31 (Value.int (1 : Int32)))) → (Q (some (Value.long (p1 * p3))) h12)))))) else (((1 : Int32) = 0 ∨ (1 : Int32) = 1) ∧ (∃ F13, h.2 p0 = zO 10 F13 ∧ ∀ h14, h14 = zP h p0 (zO 10 (zU F13 31 (Value.int (1 : Int32)))) → (Q (some (Value.long (p1 * p3))) h14)))))) : zW (d + 1) m_Mo_times e 0 [Value.ref p0, Value.long p1, zD, Value.long p3, zD, zD, zD] [] h Q := zWg_run (C := zc_Mo_times) (B := (0, 0)) rfl rfl [] 31 0 _ _ _ K
set_option maxRecDepth 100000 in
theorem b_Mo_plus_0 {d : Nat} {e : Nat × Nat} {h : zH} {Q : zQ} {p0 : Nat} {p1 : Int64} {p3 : Int64} (K : ∃ F1, h.2 p0 = zO 10 F1 ∧ ∃ x2, F1 31 = Value.int x2 ∧ ((if x2 = 0 then (if 0 ≤ (lg_cmp ((p1 ^^^ (p1 + p3)) &&& (p3 ^^^ (p1 + p3))) (0 : Int64)) then (((0 : Int32) = 0 ∨ (0 : Int32) = 1) ∧ (∃ F3, h.2 p0 = zO 10 F3 ∧ ∀ h4, h4 = zP h p0 (zO 10 (zU F3 31 (Value.int (0 : Int32)))) → (Q (some (Value.long (p1 + p3))) h4))) else (((1 : Int32) = 0 ∨ (1 : Int32) = 1) ∧ (∃ F5, h.2 p0 = zO 10 F5 ∧ ∀ h6, h6 = zP h p0 (zO 10 (zU F5 31 (Value.int (1 : Int32)))) → (Q (some (Value.long (p1 + p3))) h6)))) else (((1 : Int32) = 0 ∨ (1 : Int32) = 1) ∧ (∃ F7, h.2 p0 = zO 10 F7 ∧ ∀ h8, h8 = zP h p0 (zO 10 (zU F7 31 (Value.int (1 : Int32)))) → (Q (some (Value.long (p1 + p3))) h8)))))) : zW (d + 1) m_Mo_plus e 0 [Value.ref p0, Value.long p1, zD, Value.long p3, zD, zD, zD] [] h Q := zWg_run (C := zc_Mo_plus) (B := (0, 0)) rfl rfl [] 23 0 _ _ _ K
set_option maxRecDepth 100000 in
theorem b_Mo_nearest_0 {d : Nat} {e : Nat × Nat} {h : zH} {Q : zQ} {p0 : Int64} {p2 : Int64} (K : ¬ p2 = 0 ∧ (¬ p2 = 0 ∧ ((if 0 ≤ (lg_cmp (p0 - p0 / p2 * p2) (0 : Int64)) then (if (lg_cmp ((2 : Int64) * (p0 - p0 / p2 * p2)) p2) < 0 then Q (some (Value.long (p0 / p2))) h else Q (some (Value.long ((p0 / p2) + (1 : Int64)))) h) else (if (lg_cmp ((2 : Int64) * ((p0 - p0 / p2 * p2) + p2)) p2) < 0 then Q (some (Value.long ((p0 / p2) - (1 : Int64)))) h else Q (some (Value.long (((p0 / p2) - (1 : Int64)) + (1 : Int64)))) h))))) : zW (d + 1) m_Mo_nearest e 0 [Value.long p0, zD, Value.long p2, zD, zD, zD, zD, zD] [] h Q := zWg_run (C := zc_Mo_nearest) (B := (0, 0)) rfl rfl [] 31 0 _ _ _ K
set_option maxRecDepth 100000 in
theorem b_Mo_takes_0 {d : Nat} {e : Nat × Nat} {h : zH} {Q : zQ} {p0 : Nat} {p1 : Int32} {p2 : Int32} (K : (∃ F3, h.2 p0 = zO 10 F3) ∧ zW d m_Mo_fits h.1 0 [Value.ref p0, Value.int p1, Value.int p2, zD] [] h (fun r1 h2 => r1 = none ∧ (zW (d + 1) m_Mo_takes e 6 [Value.ref p0, zD, zD, zD, zD, zD, zD] [] h2 Q))) : zW (d + 1) m_Mo_takes e 0 [Value.ref p0, Value.int p1, Value.int p2, zD, zD, zD, zD] [] h Q := zWg_run (C := zc_Mo_takes) (B := (0, 0)) rfl rfl [6] 4 0 _ _ _ K
set_option maxRecDepth 100000 in
theorem b_Mo_takes_6 {d : Nat} {e : Nat × Nat} {h : zH} {Q : zQ} {p0 : Nat} (K : ∃ F1, h.2 p0 = zO 10 F1 ∧ ∃ x2, F1 15 = Value.long x2 ∧ (∃ F3, h.2 p0 = zO 10 F3 ∧ ∃ x4, F3 32 = Value.long x4 ∧ ((∃ F37, h.2 p0 = zO 10 F37) ∧ zW d m_Mo_times h.1 0 [Value.ref p0, Value.long x2, zD, Value.long x4, zD, zD, zD] [] h (fun r5 h6 => ∃ x7, r5 = some (Value.long x7) ∧ (∃ F8, h6.2 p0 = zO 10 F8 ∧ ∃ x9, F8 16 = Value.long x9 ∧ ((∃ F36, h6.2 p0 = zO 10 F36) ∧ zW d m_Mo_plus h6.1 0 [Value.ref p0, Value.long x7, zD, Value.long ((-256 : Int64) * x9), zD, zD, zD] [] h6 (fun r10 h11 => ∃ x12, r10 = some (Value.long x12) ∧ (∃ F13, h11.2 p0 = zO 10 F13 ∧ ∃ x14, F13 19 = Value.long x14 ∧ ((∃ F35, h11.2 p0 = zO 10 F35) ∧ zW d m_Mo_times h11.1 0 [Value.ref p0, Value.long x14, zD, Value.long x12, zD, zD, zD] [] h11 (fun r15 h16 => ∃ x17, r15 = some (Value.long x17) ∧ (∃ F18, h16.2 p0 = zO 10 F18 ∧ ∃ x19, F18 17 = Value.long x19 ∧ (∃ F20, h16.2 p0 = zO 10 F20 ∧ ∃ x21, F20 18 = Value.long x21 ∧ ((∃ F34, h16.2 p0 = zO 10 F34) ∧ zW d m_Mo_plus h16.1 0 [Value.ref p0, Value.long x17, zD, Value.long (((256 : Int64) * x19) * x21), zD, zD, zD] [] h16 (fun r22 h23 => ∃ x24, r22 = some (Value.long x24) ∧ ((∃ F33, h23.2 p0 = zO 10 F33) ∧ zW d m_Mo_den h23.1 0 [Value.ref p0] [] h23 (fun r25 h26 => ∃ x27, r25 = some (Value.long x27) ∧ (zW d m_Mo_nearest h26.1 0 [Value.long x24, zD, Value.long x27, zD, zD, zD, zD, zD] [] h26 (fun r28 h29 => ∃ x30, r28 = some (Value.long x30) ∧ ((∃ F31, h29.2 p0 = zO 10 F31 ∧ ∀ h32, h32 = zP h29 p0 (zO 10 (zU F31 32 (Value.long x30))) → (Q none h32))))))))))))))))))))) : zW (d + 1) m_Mo_takes e 6 [Value.ref p0, zD, zD, zD, zD, zD, zD] [] h Q := zWg_run (C := zc_Mo_takes) (B := (0, 0)) rfl rfl [6] 35 6 _ _ _ K
set_option maxRecDepth 100000 in
theorem b_Mo_goes_0 {d : Nat} {e : Nat × Nat} {h : zH} {Q : zQ} {p0 : Nat} {p1 : Int32} {p2 : Int32} (K : (∃ F7, h.2 p0 = zO 10 F7) ∧ zW d m_Mo_findsChain h.1 0 [Value.ref p0, Value.int p1, Value.int p2, zD, zD] [] h (fun r1 h2 => r1 = none ∧ (∃ F3, h2.2 p0 = zO 10 F3 ∧ ∃ x4, F3 29 = Value.int x4 ∧ ((if x4 = 0 then Q (some (Value.int (-2 : Int32))) h2 else (((0 : Int32) = 0 ∨ (0 : Int32) = 1) ∧ (∃ F5, h2.2 p0 = zO 10 F5 ∧ ∀ h6, h6 = zP h2 p0 (zO 10 (zU F5 31 (Value.int (0 : Int32)))) → (zW (d + 1) m_Mo_goes e 23 [Value.ref p0, zD, zD, Value.int (0 : Int32)] [] h6 Q)))))))) : zW (d + 1) m_Mo_goes e 0 [Value.ref p0, Value.int p1, Value.int p2, zD] [] h Q := zWg_run (C := zc_Mo_goes) (B := (0, 0)) rfl rfl [23] 12 0 _ _ _ K
set_option maxRecDepth 100000 in
theorem b_Mo_goes_23 {d : Nat} {e : Nat × Nat} {h : zH} {Q : zQ} {p0 : Nat} {p3 : Int32} (K : ∃ F1, h.2 p0 = zO 10 F1 ∧ ∃ x2, F1 29 = Value.int x2 ∧ ((if x2 ≤ (p3 + (1 : Int32)) then ∃ F3, h.2 p0 = zO 10 F3 ∧ ∃ x4, F3 31 = Value.int x4 ∧ ((if x4 = 0 then Q (some (Value.int (0 : Int32))) h else Q (some (Value.int (-3 : Int32))) h)) else ∃ F5, h.2 p0 = zO 10 F5 ∧ ∃ x6, F5 31 = Value.int x6 ∧ ((if x6 = 0 then ∃ F7, h.2 p0 = zO 10 F7 ∧ ∃ x8, F7 28 = Value.ref x8 ∧ (∃ n9 f10, h.2 x8 = zI 0 n9 f10 ∧ zIn p3 n9 ∧ (∃ F11, h.2 p0 = zO 10 F11 ∧ ∃ x12, F11 28 = Value.ref x12 ∧ (∃ n13 f14, h.2 x12 = zI 0 n13 f14 ∧ zIn (p3 + (1 : Int32)) n13 ∧ ((∃ F17, h.2 p0 = zO 10 F17) ∧ zW d m_Mo_takes h.1 0 [Value.ref p0, Value.int (f10 p3.toNatClampNeg), Value.int (f14 (p3 + (1 : Int32)).toNatClampNeg), zD, zD, zD, zD] [] h (fun r15 h16 => r15 = none ∧ (zW (d + 1) m_Mo_goes e 23 [Value.ref p0, zD, zD, Value.int (p3 + 1)] [] h16 Q)))))) else ∃ F18, h.2 p0 = zO 10 F18 ∧ ∃ x19, F18 31 = Value.int x19 ∧ ((if x19 = 0 then Q (some (Value.int (0 : Int32))) h else Q (some (Value.int (-3 : Int32))) h))))))) : zW (d + 1) m_Mo_goes e 23 [Value.ref p0, zD, zD, Value.int p3] [] h Q := zWg_run (C := zc_Mo_goes) (B := (0, 0)) rfl rfl [23] 23 23 _ _ _ K
set_option maxRecDepth 100000 in
theorem b_Mo_reachesOne_0 {d : Nat} {e : Nat × Nat} {h : zH} {Q : zQ} {p0 : Nat} {p1 : Int32} {p2 : Int32} (K : (∃ F10, h.2 p0 = zO 10 F10) ∧ zW d m_Mo_findsCosts h.1 0 [Value.ref p0, zD, zD] [] h (fun r1 h2 => r1 = none ∧ ((∃ F9, h2.2 p0 = zO 10 F9) ∧ zW d m_Mo_findsLeast h2.1 0 [Value.ref p0, Value.int p2, zD, zD, zD] [] h2 (fun r3 h4 => r3 = none ∧ (∃ F5, h4.2 p0 = zO 10 F5 ∧ ∃ x6, F5 26 = Value.ref x6 ∧ (∃ n7 f8, h4.2 x6 = zI 0 n7 f8 ∧ zIn p1 n7 ∧ ((if (f8 p1.toNatClampNeg) = (1000000000 : Int32) then (((0 : Int32) = 0 ∨ (0 : Int32) = 1) ∧ Q (some (Value.int (0 : Int32))) h4) else (((1 : Int32) = 0 ∨ (1 : Int32) = 1) ∧ Q (some (Value.int (1 : Int32))) h4))))))))) : zW (d + 1) m_Mo_reachesOne e 0 [Value.ref p0, Value.int p1, Value.int p2] [] h Q := zWg_run (C := zc_Mo_reachesOne) (B := (0, 0)) rfl rfl [] 14 0 _ _ _ K
set_option maxRecDepth 100000 in
theorem b_Mo_taken_0 {d : Nat} {e : Nat × Nat} {h : zH} {Q : zQ} {p0 : Nat} {p1 : Int32} {p2 : Int32} {p3 : Int64} (K : (∃ F1, h.2 p0 = zO 10 F1 ∧ ∀ h2, h2 = zP h p0 (zO 10 (zU F1 30 (Value.int (0 : Int32)))) → ((∃ F20, h2.2 p0 = zO 10 F20) ∧ zW d m_Mo_isClock h2.1 0 [Value.ref p0, Value.int p1] [] h2 (fun r3 h4 => ∃ x5, r3 = some (Value.int x5) ∧ ((if x5 = 0 then Q (some (Value.long (-1 : Int64))) h4 else (∃ F19, h4.2 p0 = zO 10 F19) ∧ zW d m_Mo_isClock h4.1 0 [Value.ref p0, Value.int p2] [] h4 (fun r6 h7 => ∃ x8, r6 = some (Value.int x8) ∧ ((if x8 = 0 then Q (some (Value.long (-1 : Int64))) h7 else (∃ F9, h7.2 p0 = zO 10 F9 ∧ ∀ h10, h10 = zP h7 p0 (zO 10 (zU F9 32 (Value.long p3))) → ((∃ F18, h10.2 p0 = zO 10 F18) ∧ zW d m_Mo_goes h10.1 0 [Value.ref p0, Value.int p1, Value.int p2, zD] [] h10 (fun r11 h12 => ∃ x13, r11 = some (Value.int x13) ∧ ((if x13 = 0 then (∃ F14, h12.2 p0 = zO 10 F14 ∧ ∀ h15, h15 = zP h12 p0 (zO 10 (zU F14 30 (Value.int (1 : Int32)))) → (∃ F16, h15.2 p0 = zO 10 F16 ∧ ∃ x17, F16 32 = Value.long x17 ∧ (Q (some (Value.long x17)) h15))) else Q (some (Value.long x13.toInt64)) h12)))))))))))))) : zW (d + 1) m_Mo_taken e 0 [Value.ref p0, Value.int p1, Value.int p2, Value.long p3, zD, zD] [] h Q := zWg_run (C := zc_Mo_taken) (B := (0, 0)) rfl rfl [] 27 0 _ _ _ K
set_option maxRecDepth 100000 in
theorem b_Mo_ok_0 {d : Nat} {e : Nat × Nat} {h : zH} {Q : zQ} {p0 : Nat} (K : ∃ F1, h.2 p0 = zO 10 F1 ∧ ∃ x2, F1 30 = Value.int x2 ∧ (Q (some (Value.int x2)) h)) : zW (d + 1) m_Mo_ok e 0 [Value.ref p0] [] h Q := zWg_run (C := zc_Mo_ok) (B := (0, 0)) rfl rfl [] 3 0 _ _ _ K
set_option maxRecDepth 100000 in
theorem b_Mo_there_0 {d : Nat} {e : Nat × Nat} {h : zH} {Q : zQ} {p0 : Nat} {p1 : Int32} {p2 : Int32} {p3 : Int64} (K : (∃ F1, h.2 p0 = zO 10 F1 ∧ ∀ h2, h2 = zP h p0 (zO 10 (zU F1 30 (Value.int (0 : Int32)))) → ((∃ F18, h2.2 p0 = zO 10 F18) ∧ zW d m_Mo_isClock h2.1 0 [Value.ref p0, Value.int p1] [] h2 (fun r3 h4 => ∃ x5, r3 = some (Value.int x5) ∧ ((if x5 = 0 then Q (some (Value.long (-1 : Int64))) h4 else (∃ F17, h4.2 p0 = zO 10 F17) ∧ zW d m_Mo_isClock h4.1 0 [Value.ref p0, Value.int p2] [] h4 (fun r6 h7 => ∃ x8, r6 = some (Value.int x8) ∧ ((if x8 = 0 then Q (some (Value.long (-1 : Int64))) h7 else (∃ F16, h7.2 p0 = zO 10 F16) ∧ zW d m_Mo_reachesOne h7.1 0 [Value.ref p0, Value.int p1, Value.int p2] [] h7 (fun r9 h10 => ∃ x11, r9 = some (Value.int x11) ∧ ((if x11 = 0 then Q (some (Value.long (-2 : Int64))) h10 else (∃ F15, h10.2 p0 = zO 10 F15) ∧ zW d m_Mo_reachesOne h10.1 0 [Value.ref p0, Value.int p2, Value.int p1] [] h10 (fun r12 h13 => ∃ x14, r12 = some (Value.int x14) ∧ ((if x14 = 0 then Q (some (Value.long (-2 : Int64))) h13 else zW (d + 1) m_Mo_there e 47 [Value.ref p0, Value.int p1, Value.int p2, Value.long p3, zD, zD, zD] [] h13 Q))))))))))))))) : zW (d + 1) m_Mo_there e 0 [Value.ref p0, Value.int p1, Value.int p2, Value.long p3, zD, zD, zD] [] h Q := zWg_run (C := zc_Mo_there) (B := (0, 0)) rfl rfl [47] 23 0 _ _ _ K
set_option maxRecDepth 100000 in
theorem b_Mo_there_47 {d : Nat} {e : Nat × Nat} {h : zH} {Q : zQ} {p0 : Nat} {p1 : Int32} {p2 : Int32} {p3 : Int64} (K : (∃ F1, h.2 p0 = zO 10 F1 ∧ ∀ h2, h2 = zP h p0 (zO 10 (zU F1 32 (Value.long p3))) → ((∃ F18, h2.2 p0 = zO 10 F18) ∧ zW d m_Mo_goes h2.1 0 [Value.ref p0, Value.int p1, Value.int p2, zD] [] h2 (fun r3 h4 => ∃ x5, r3 = some (Value.int x5) ∧ ((if x5 = 0 then (∃ F17, h4.2 p0 = zO 10 F17) ∧ zW d m_Mo_goes h4.1 0 [Value.ref p0, Value.int p2, Value.int p1, zD] [] h4 (fun r6 h7 => ∃ x8, r6 = some (Value.int x8) ∧ ((if x8 = 0 then ∃ F9, h7.2 p0 = zO 10 F9 ∧ ∃ x10, F9 32 = Value.long x10 ∧ (∃ F11, h7.2 p0 = zO 10 F11 ∧ ∃ x12, F11 32 = Value.long x12 ∧ (∃ F13, h7.2 p0 = zO 10 F13 ∧ ∃ x14, F13 32 = Value.long x14 ∧ ((if 0 ≤ (lg_cmp ((x12 ^^^ p3) &&& (x14 ^^^ (x10 - p3))) (0 : Int64)) then (∃ F15, h7.2 p0 = zO 10 F15 ∧ ∀ h16, h16 = zP h7 p0 (zO 10 (zU F15 30 (Value.int (1 : Int32)))) → (Q (some (Value.long (x10 - p3))) h16)) else Q (some (Value.long (-3 : Int64))) h7)))) else Q (some (Value.long (-3 : Int64))) h7))) else Q (some (Value.long (-3 : Int64))) h4)))))) : zW (d + 1) m_Mo_there e 47 [Value.ref p0, Value.int p1, Value.int p2, Value.long p3, zD, zD, zD] [] h Q := zWg_run (C := zc_Mo_there) (B := (0, 0)) rfl rfl [47] 35 47 _ _ _ K
set_option maxRecDepth 100000 in
theorem b_Mo_hear_0 {d : Nat} {e : Nat × Nat} {h : zH} {Q : zQ} {p0 : Nat} {p1 : Int32} {p2 : Int32} {p3 : Int32} (K : zW d m_Mo_isBeacon h.1 0 [Value.int p1] [] h (fun r1 h2 => ∃ x3, r1 = some (Value.int x3) ∧ ((if x3 = 0 then Q (some (Value.int (-1 : Int32))) h2 else (∃ F25, h2.2 p0 = zO 10 F25) ∧ zW d m_Mo_isClock h2.1 0 [Value.ref p0, Value.int p2] [] h2 (fun r4 h5 => ∃ x6, r4 = some (Value.int x6) ∧ ((if x6 = 0 then Q (some (Value.int (-1 : Int32))) h5 else zW d m_Mo_in h5.1 0 [Value.long p3.toInt64, zD, Value.long (0 : Int64), zD, Value.long (9999 : Int64), zD] [] h5 (fun r7 h8 => ∃ x9, r7 = some (Value.int x9) ∧ ((if x9 = 0 then Q (some (Value.int (-1 : Int32))) h8 else ∃ F10, h8.2 p0 = zO 10 F10 ∧ ∃ x11, F10 0 = Value.ref x11 ∧ (zW d m_Mo_at h8.1 0 [Value.int p1, Value.int p2] [] h8 (fun r12 h13 => ∃ x14, r12 = some (Value.int x14) ∧ (∃ n15 f16, h13.2 x11 = zI 0 n15 f16 ∧ zIn x14 n15 ∧ (∃ F17, h13.2 p0 = zO 10 F17 ∧ ∃ x18, F17 0 = Value.ref x18 ∧ (zW d m_Mo_at h13.1 0 [Value.int p1, Value.int p2] [] h13 (fun r19 h20 => ∃ x21, r19 = some (Value.int x21) ∧ ((∃ n22 f23, h20.2 x18 = zI 0 n22 f23 ∧ zIn x21 n22 ∧ ∀ h24, h24 = zP h20 x18 (zI 0 n22 (zU f23 x21.toNatClampNeg p3)) → (Q (some (Value.int (f16 x14.toNatClampNeg))) h24))))))))))))))))))) : zW (d + 1) m_Mo_hear e 0 [Value.ref p0, Value.int p1, Value.int p2, Value.int p3, zD] [] h Q := zWg_run (C := zc_Mo_hear) (B := (0, 0)) rfl rfl [] 29 0 _ _ _ K
set_option maxRecDepth 100000 in
theorem b_Mo_lose_0 {d : Nat} {e : Nat × Nat} {h : zH} {Q : zQ} {p0 : Nat} {p1 : Int32} {p2 : Int32} (K : zW d m_Mo_isBeacon h.1 0 [Value.int p1] [] h (fun r1 h2 => ∃ x3, r1 = some (Value.int x3) ∧ ((if x3 = 0 then Q (some (Value.int (-1 : Int32))) h2 else (∃ F22, h2.2 p0 = zO 10 F22) ∧ zW d m_Mo_isClock h2.1 0 [Value.ref p0, Value.int p2] [] h2 (fun r4 h5 => ∃ x6, r4 = some (Value.int x6) ∧ ((if x6 = 0 then Q (some (Value.int (-1 : Int32))) h5 else ∃ F7, h5.2 p0 = zO 10 F7 ∧ ∃ x8, F7 0 = Value.ref x8 ∧ (zW d m_Mo_at h5.1 0 [Value.int p1, Value.int p2] [] h5 (fun r9 h10 => ∃ x11, r9 = some (Value.int x11) ∧ (∃ n12 f13, h10.2 x8 = zI 0 n12 f13 ∧ zIn x11 n12 ∧ (∃ F14, h10.2 p0 = zO 10 F14 ∧ ∃ x15, F14 0 = Value.ref x15 ∧ (zW d m_Mo_at h10.1 0 [Value.int p1, Value.int p2] [] h10 (fun r16 h17 => ∃ x18, r16 = some (Value.int x18) ∧ ((∃ n19 f20, h17.2 x15 = zI 0 n19 f20 ∧ zIn x18 n19 ∧ ∀ h21, h21 = zP h17 x15 (zI 0 n19 (zU f20 x18.toNatClampNeg (-4 : Int32))) → (Q (some (Value.int (f13 x11.toNatClampNeg))) h21)))))))))))))))) : zW (d + 1) m_Mo_lose e 0 [Value.ref p0, Value.int p1, Value.int p2, zD] [] h Q := zWg_run (C := zc_Mo_lose) (B := (0, 0)) rfl rfl [] 23 0 _ _ _ K
set_option maxRecDepth 100000 in
theorem b_Mo_shift_0 {d : Nat} {e : Nat × Nat} {h : zH} {Q : zQ} {p0 : Nat} {p1 : Int32} {p2 : Int32} (K : (∃ F7, h.2 p0 = zO 10 F7) ∧ zW d m_Mo_isClock h.1 0 [Value.ref p0, Value.int p1] [] h (fun r1 h2 => ∃ x3, r1 = some (Value.int x3) ∧ ((if x3 = 0 then Q (some (Value.int (-1 : Int32))) h2 else zW d m_Mo_in h2.1 0 [Value.long p2.toInt64, zD, Value.long (-9999 : Int64), zD, Value.long (9999 : Int64), zD] [] h2 (fun r4 h5 => ∃ x6, r4 = some (Value.int x6) ∧ ((if x6 = 0 then Q (some (Value.int (-1 : Int32))) h5 else zW (d + 1) m_Mo_shift e 29 [Value.ref p0, Value.int p1, Value.int p2, Value.int (1 : Int32), Value.int (0 : Int32)] [] h5 Q))))))) : zW (d + 1) m_Mo_shift e 0 [Value.ref p0, Value.int p1, Value.int p2, zD, zD] [] h Q := zWg_run (C := zc_Mo_shift) (B := (0, 0)) rfl rfl [29, 102] 14 0 _ _ _ K
set_option maxRecDepth 100000 in
theorem b_Mo_shift_29 {d : Nat} {e : Nat × Nat} {h : zH} {Q : zQ} {p0 : Nat} {p1 : Int32} {p2 : Int32} {p3 : Int32} {p4 : Int32} (K : (if (16 : Int32) ≤ p4 then (if p3 = 0 then Q (some (Value.int (-2 : Int32))) h else zW (d + 1) m_Mo_shift e 102 [Value.ref p0, Value.int p1, Value.int p2, zD, Value.int (0 : Int32)] [] h Q) else (if p3 = 0 then zW (d + 1) m_Mo_shift e 29 [Value.ref p0, Value.int p1, Value.int p2, Value.int (0 : Int32), Value.int (p4 + 1)] [] h Q else ∃ F1, h.2 p0 = zO 10 F1 ∧ ∃ x2, F1 0 = Value.ref x2 ∧ (zW d m_Mo_at h.1 0 [Value.int p4, Value.int p1] [] h (fun r3 h4 => ∃ x5, r3 = some (Value.int x5) ∧ (∃ n6 f7, h4.2 x2 = zI 0 n6 f7 ∧ zIn x5 n6 ∧ ((if (f7 x5.toNatClampNeg) = (-4 : Int32) then zW (d + 1) m_Mo_shift e 29 [Value.ref p0, Value.int p1, Value.int p2, Value.int (1 : Int32), Value.int (p4 + 1)] [] h4 Q else ∃ F8, h4.2 p0 = zO 10 F8 ∧ ∃ x9, F8 0 = Value.ref x9 ∧ (zW d m_Mo_at h4.1 0 [Value.int p4, Value.int p1] [] h4 (fun r10 h11 => ∃ x12, r10 = some (Value.int x12) ∧ (∃ n13 f14, h11.2 x9 = zI 0 n13 f14 ∧ zIn x12 n13 ∧ (zW d m_Mo_in h11.1 0 [Value.long (((f14 x12.toNatClampNeg) + p2).toInt64), zD, Value.long (0 : Int64), zD, Value.long (9999 : Int64), zD] [] h11 (fun r15 h16 => ∃ x17, r15 = some (Value.int x17) ∧ ((if x17 = 0 then zW (d + 1) m_Mo_shift e 29 [Value.ref p0, Value.int p1, Value.int p2, Value.int (0 : Int32), Value.int (p4 + 1)] [] h16 Q else zW (d + 1) m_Mo_shift e 29 [Value.ref p0, Value.int p1, Value.int p2, Value.int (1 : Int32), Value.int (p4 + 1)] [] h16 Q))))))))))))))) : zW (d + 1) m_Mo_shift e 29 [Value.ref p0, Value.int p1, Value.int p2, Value.int p3, Value.int p4] [] h Q := zWg_run (C := zc_Mo_shift) (B := (0, 0)) rfl rfl [29, 102] 31 29 _ _ _ K
set_option maxRecDepth 100000 in
theorem b_Mo_shift_102 {d : Nat} {e : Nat × Nat} {h : zH} {Q : zQ} {p0 : Nat} {p1 : Int32} {p2 : Int32} {p4 : Int32} (K : (if (16 : Int32) ≤ p4 then (∃ F4, h.2 p0 = zO 10 F4) ∧ zW d m_Mo_stampsOf h.1 0 [Value.ref p0, Value.int p1, zD, zD] [] h (fun r1 h2 => ∃ x3, r1 = some (Value.int x3) ∧ (Q (some (Value.int x3)) h2)) else ∃ F5, h.2 p0 = zO 10 F5 ∧ ∃ x6, F5 0 = Value.ref x6 ∧ (zW d m_Mo_at h.1 0 [Value.int p4, Value.int p1] [] h (fun r7 h8 => ∃ x9, r7 = some (Value.int x9) ∧ (∃ n10 f11, h8.2 x6 = zI 0 n10 f11 ∧ zIn x9 n10 ∧ (∃ F12, h8.2 p0 = zO 10 F12 ∧ ∃ x13, F12 0 = Value.ref x13 ∧ (zW d m_Mo_at h8.1 0 [Value.int p4, Value.int p1] [] h8 (fun r14 h15 => ∃ x16, r14 = some (Value.int x16) ∧ (∃ n17 f18, h15.2 x13 = zI 0 n17 f18 ∧ zIn x16 n17 ∧ ((if (f18 x16.toNatClampNeg) = (-4 : Int32) then (∃ n19 f20, h15.2 x6 = zI 0 n19 f20 ∧ zIn x9 n19 ∧ ∀ h21, h21 = zP h15 x6 (zI 0 n19 (zU f20 x9.toNatClampNeg ((f11 x9.toNatClampNeg) + (0 : Int32)))) → (zW (d + 1) m_Mo_shift e 102 [Value.ref p0, Value.int p1, Value.int p2, zD, Value.int (p4 + 1)] [] h21 Q)) else (∃ n22 f23, h15.2 x6 = zI 0 n22 f23 ∧ zIn x9 n22 ∧ ∀ h24, h24 = zP h15 x6 (zI 0 n22 (zU f23 x9.toNatClampNeg ((f11 x9.toNatClampNeg) + p2))) → (zW (d + 1) m_Mo_shift e 102 [Value.ref p0, Value.int p1, Value.int p2, zD, Value.int (p4 + 1)] [] h24 Q))))))))))))) : zW (d + 1) m_Mo_shift e 102 [Value.ref p0, Value.int p1, Value.int p2, zD, Value.int p4] [] h Q := zWg_run (C := zc_Mo_shift) (B := (0, 0)) rfl rfl [29, 102] 24 102 _ _ _ K
set_option maxRecDepth 100000 in
theorem b_Mo_set_0 {d : Nat} {e : Nat × Nat} {h : zH} {Q : zQ} {p0 : Nat} {p1 : Int32} {p2 : Int32} (K : (if p1 = (2 : Int32) then zW d m_Mo_in h.1 0 [Value.long p2.toInt64, zD, Value.long (0 : Int64), zD, Value.long (99 : Int64), zD] [] h (fun r1 h2 => ∃ x3, r1 = some (Value.int x3) ∧ ((if x3 = 0 then Q (some (Value.int (-1 : Int32))) h2 else zW (d + 1) m_Mo_set e 41 [Value.ref p0, Value.int p1, Value.int p2, zD] [] h2 Q))) else (if p1 = (3 : Int32) then zW d m_Mo_in h.1 0 [Value.long p2.toInt64, zD, Value.long (2 : Int64), zD, Value.long (6 : Int64), zD] [] h (fun r4 h5 => ∃ x6, r4 = some (Value.int x6) ∧ ((if x6 = 0 then Q (some (Value.int (-1 : Int32))) h5 else zW (d + 1) m_Mo_set e 41 [Value.ref p0, Value.int p1, Value.int p2, zD] [] h5 Q))) else Q (some (Value.int (-1 : Int32))) h))) : zW (d + 1) m_Mo_set e 0 [Value.ref p0, Value.int p1, Value.int p2, zD] [] h Q := zWg_run (C := zc_Mo_set) (B := (0, 0)) rfl rfl [41] 14 0 _ _ _ K
set_option maxRecDepth 100000 in
theorem b_Mo_set_41 {d : Nat} {e : Nat × Nat} {h : zH} {Q : zQ} {p0 : Nat} {p1 : Int32} {p2 : Int32} (K : ∃ F1, h.2 p0 = zO 10 F1 ∧ ∃ x2, F1 0 = Value.ref x2 ∧ (∃ n3 f4, h.2 x2 = zI 0 n3 f4 ∧ zIn (p1 - (1 : Int32)) n3 ∧ (∃ F5, h.2 p0 = zO 10 F5 ∧ ∃ x6, F5 0 = Value.ref x6 ∧ ((∃ n7 f8, h.2 x6 = zI 0 n7 f8 ∧ zIn (p1 - (1 : Int32)) n7 ∧ ∀ h9, h9 = zP h x6 (zI 0 n7 (zU f8 (p1 - (1 : Int32)).toNatClampNeg p2)) → (Q (some (Value.int (f4 (p1 - (1 : Int32)).toNatClampNeg))) h9)))))) : zW (d + 1) m_Mo_set e 41 [Value.ref p0, Value.int p1, Value.int p2, zD] [] h Q := zWg_run (C := zc_Mo_set) (B := (0, 0)) rfl rfl [41] 16 41 _ _ _ K
set_option maxRecDepth 100000 in
theorem b_Mo_gets_0 {d : Nat} {e : Nat × Nat} {h : zH} {Q : zQ} {p0 : Nat} (K : ∃ F1, h.2 p0 = zO 10 F1 ∧ ∃ x2, F1 33 = Value.int x2 ∧ ((∃ F3, h.2 p0 = zO 10 F3 ∧ ∀ h4, h4 = zP h p0 (zO 10 (zU F3 33 (Value.int ((x2 * (1103515245 : Int32)) + (12345 : Int32))))) → (∃ F5, h4.2 p0 = zO 10 F5 ∧ ∃ x6, F5 33 = Value.int x6 ∧ (Q (some (Value.int ((x6 >>> ((16 : Int32) &&& 31)) &&& (32767 : Int32)))) h4))))) : zW (d + 1) m_Mo_gets e 0 [Value.ref p0] [] h Q := zWg_run (C := zc_Mo_gets) (B := (0, 0)) rfl rfl [] 15 0 _ _ _ K
set_option maxRecDepth 100000 in
theorem b_Mo_draw_0 {d : Nat} {e : Nat × Nat} {h : zH} {Q : zQ} {p0 : Nat} {p1 : Int32} {p2 : Int32} (K : zW d m_Mo_in h.1 0 [Value.long p2.toInt64, zD, Value.long (1 : Int64), zD, Value.long (7 : Int64), zD] [] h (fun r1 h2 => ∃ x3, r1 = some (Value.int x3) ∧ ((if x3 = 0 then Q (some (Value.int (-1 : Int32))) h2 else (∃ F4, h2.2 p0 = zO 10 F4 ∧ ∀ h5, h5 = zP h2 p0 (zO 10 (zU F4 33 (Value.int p1))) → (∃ F6, h5.2 p0 = zO 10 F6 ∧ ∃ x7, F6 0 = Value.ref x7 ∧ ((∃ n8 f9, h5.2 x7 = zI 0 n8 f9 ∧ zIn (0 : Int32) n8 ∧ ∀ h10, h10 = zP h5 x7 (zI 0 n8 (zU f9 (0 : Int32).toNatClampNeg p2)) → (∃ F11, h10.2 p0 = zO 10 F11 ∧ ∃ x12, F11 0 = Value.ref x12 ∧ (zW d m_Mo_empties h10.1 0 [Value.ref x12, zD] [] h10 (fun r13 h14 => r13 = none ∧ (zW (d + 1) m_Mo_draw e 35 [Value.ref p0, zD, Value.int p2, Value.int (0 : Int32), zD, zD, zD, zD] [] h14 Q)))))))))))) : zW (d + 1) m_Mo_draw e 0 [Value.ref p0, Value.int p1, Value.int p2, zD, zD, zD, zD, zD] [] h Q := zWg_run (C := zc_Mo_draw) (B := (0, 0)) rfl rfl [35, 74, 83, 114] 19 0 _ _ _ K
set_option maxRecDepth 100000 in
theorem b_Mo_draw_35 {d : Nat} {e : Nat × Nat} {h : zH} {Q : zQ} {p0 : Nat} {p2 : Int32} {p3 : Int32} (K : (if p2 ≤ p3 then zW (d + 1) m_Mo_draw e 74 [Value.ref p0, zD, Value.int p2, Value.int (0 : Int32), zD, zD, zD, zD] [] h Q else ∃ F1, h.2 p0 = zO 10 F1 ∧ ∃ x2, F1 34 = Value.ref x2 ∧ ((∃ F18, h.2 p0 = zO 10 F18) ∧ zW d m_Mo_gets h.1 0 [Value.ref p0] [] h (fun r3 h4 => ∃ x5, r3 = some (Value.int x5) ∧ (¬ (500 : Int32) = 0 ∧ ((∃ n6 f7, h4.2 x2 = zI 0 n6 f7 ∧ zIn p3 n6 ∧ ∀ h8, h8 = zP h4 x2 (zI 0 n6 (zU f7 p3.toNatClampNeg (x5 - x5 / (500 : Int32) * (500 : Int32)))) → (∃ F9, h8.2 p0 = zO 10 F9 ∧ ∃ x10, F9 35 = Value.ref x10 ∧ ((∃ F17, h8.2 p0 = zO 10 F17) ∧ zW d m_Mo_gets h8.1 0 [Value.ref p0] [] h8 (fun r11 h12 => ∃ x13, r11 = some (Value.int x13) ∧ (¬ (5 : Int32) = 0 ∧ ((∃ n14 f15, h12.2 x10 = zI 0 n14 f15 ∧ zIn p3 n14 ∧ ∀ h16, h16 = zP h12 x10 (zI 0 n14 (zU f15 p3.toNatClampNeg (x13 - x13 / (5 : Int32) * (5 : Int32)))) → (zW (d + 1) m_Mo_draw e 35 [Value.ref p0, zD, Value.int p2, Value.int (p3 + 1), zD, zD, zD, zD] [] h16 Q)))))))))))))) : zW (d + 1) m_Mo_draw e 35 [Value.ref p0, zD, Value.int p2, Value.int p3, zD, zD, zD, zD] [] h Q := zWg_run (C := zc_Mo_draw) (B := (0, 0)) rfl rfl [35, 74, 83, 114] 21 35 _ _ _ K
set_option maxRecDepth 100000 in
theorem b_Mo_draw_74 {d : Nat} {e : Nat × Nat} {h : zH} {Q : zQ} {p0 : Nat} {p2 : Int32} {p3 : Int32} (K : (if (16 : Int32) ≤ p3 then (∃ F4, h.2 p0 = zO 10 F4) ∧ zW d m_Mo_stamps h.1 0 [Value.ref p0, zD, zD] [] h (fun r1 h2 => ∃ x3, r1 = some (Value.int x3) ∧ (Q (some (Value.int x3)) h2)) else zW (d + 1) m_Mo_draw e 83 [Value.ref p0, zD, Value.int p2, Value.int p3, Value.int (0 : Int32), zD, zD, zD] [] h Q)) : zW (d + 1) m_Mo_draw e 74 [Value.ref p0, zD, Value.int p2, Value.int p3, zD, zD, zD, zD] [] h Q := zWg_run (C := zc_Mo_draw) (B := (0, 0)) rfl rfl [35, 74, 83, 114] 6 74 _ _ _ K
set_option maxRecDepth 100000 in
theorem b_Mo_draw_83 {d : Nat} {e : Nat × Nat} {h : zH} {Q : zQ} {p0 : Nat} {p2 : Int32} {p3 : Int32} {p4 : Int32} (K : (if p2 ≤ p4 then zW (d + 1) m_Mo_draw e 74 [Value.ref p0, zD, Value.int p2, Value.int (p3 + 1), zD, zD, zD, zD] [] h Q else (∃ F12, h.2 p0 = zO 10 F12) ∧ zW d m_Mo_gets h.1 0 [Value.ref p0] [] h (fun r1 h2 => ∃ x3, r1 = some (Value.int x3) ∧ ((∃ F11, h2.2 p0 = zO 10 F11) ∧ zW d m_Mo_gets h2.1 0 [Value.ref p0] [] h2 (fun r4 h5 => ∃ x6, r4 = some (Value.int x6) ∧ ((∃ F10, h5.2 p0 = zO 10 F10) ∧ zW d m_Mo_gets h5.1 0 [Value.ref p0] [] h5 (fun r7 h8 => ∃ x9, r7 = some (Value.int x9) ∧ (¬ (4 : Int32) = 0 ∧ ((if (x3 - x3 / (4 : Int32) * (4 : Int32)) = 0 then zW (d + 1) m_Mo_draw e 83 [Value.ref p0, zD, Value.int p2, Value.int p3, Value.int (p4 + 1), zD, zD, zD] [] h8 Q else zW (d + 1) m_Mo_draw e 114 [Value.ref p0, zD, Value.int p2, Value.int p3, Value.int p4, zD, Value.int x6, Value.int x9] [] h8 Q)))))))))) : zW (d + 1) m_Mo_draw e 83 [Value.ref p0, zD, Value.int p2, Value.int p3, Value.int p4, zD, zD, zD] [] h Q := zWg_run (C := zc_Mo_draw) (B := (0, 0)) rfl rfl [35, 74, 83, 114] 18 83 _ _ _ K
set_option maxRecDepth 100000 in
theorem b_Mo_draw_114 {d : Nat} {e : Nat × Nat} {h : zH} {Q : zQ} {p0 : Nat} {p2 : Int32} {p3 : Int32} {p4 : Int32} {p6 : Int32} {p7 : Int32} (K : ∃ F1, h.2 p0 = zO 10 F1 ∧ ∃ x2, F1 0 = Value.ref x2 ∧ (zW d m_Mo_at h.1 0 [Value.int p3, Value.int p4] [] h (fun r3 h4 => ∃ x5, r3 = some (Value.int x5) ∧ (∃ F6, h4.2 p0 = zO 10 F6 ∧ ∃ x7, F6 34 = Value.ref x7 ∧ (∃ n8 f9, h4.2 x7 = zI 0 n8 f9 ∧ zIn p4 n8 ∧ (∃ F10, h4.2 p0 = zO 10 F10 ∧ ∃ x11, F10 35 = Value.ref x11 ∧ (∃ n12 f13, h4.2 x11 = zI 0 n12 f13 ∧ zIn p4 n12 ∧ (¬ (3 : Int32) = 0 ∧ (¬ (9 : Int32) = 0 ∧ ((if (p7 - p7 / (9 : Int32) * (9 : Int32)) = 0 then (∃ n14 f15, h4.2 x2 = zI 0 n14 f15 ∧ zIn x5 n14 ∧ ∀ h16, h16 = zP h4 x2 (zI 0 n14 (zU f15 x5.toNatClampNeg (((((f9 p4.toNatClampNeg) + ((40 : Int32) * (p3 + (1 : Int32)))) + ((f13 p4.toNatClampNeg) * p3)) + (p6 - p6 / (3 : Int32) * (3 : Int32))) + (97 : Int32)))) → (zW (d + 1) m_Mo_draw e 83 [Value.ref p0, zD, Value.int p2, Value.int p3, Value.int (p4 + 1), zD, zD, zD] [] h16 Q)) else (∃ n17 f18, h4.2 x2 = zI 0 n17 f18 ∧ zIn x5 n17 ∧ ∀ h19, h19 = zP h4 x2 (zI 0 n17 (zU f18 x5.toNatClampNeg (((((f9 p4.toNatClampNeg) + ((40 : Int32) * (p3 + (1 : Int32)))) + ((f13 p4.toNatClampNeg) * p3)) + (p6 - p6 / (3 : Int32) * (3 : Int32))) + (0 : Int32)))) → (zW (d + 1) m_Mo_draw e 83 [Value.ref p0, zD, Value.int p2, Value.int p3, Value.int (p4 + 1), zD, zD, zD] [] h19 Q))))))))))))) : zW (d + 1) m_Mo_draw e 114 [Value.ref p0, zD, Value.int p2, Value.int p3, Value.int p4, zD, Value.int p6, Value.int p7] [] h Q := zWg_run (C := zc_Mo_draw) (B := (0, 0)) rfl rfl [35, 74, 83, 114] 36 114 _ _ _ K
set_option maxRecDepth 100000 in
theorem b_Mo_keep_0 {d : Nat} {e : Nat × Nat} {h : zH} {Q : zQ} {p0 : Nat} {p1 : Int32} (K : zW d m_Mo_in h.1 0 [Value.long p1.toInt64, zD, Value.long (0 : Int64), zD, Value.long (1 : Int64), zD] [] h (fun r1 h2 => ∃ x3, r1 = some (Value.int x3) ∧ ((if x3 = 0 then Q (some (Value.int (-1 : Int32))) h2 else ∃ F4, h2.2 p0 = zO 10 F4 ∧ ∃ x5, F4 3 = Value.ref x5 ∧ (∃ n6 f7, h2.2 x5 = zI 1 n6 f7 ∧ zIn p1 n6 ∧ (zW d m_Mo_flag h2.1 0 [Value.int (f7 p1.toNatClampNeg)] [] h2 (fun r8 h9 => ∃ x10, r8 = some (Value.int x10) ∧ (∃ F11, h9.2 p0 = zO 10 F11 ∧ ∃ x12, F11 3 = Value.ref x12 ∧ (((1 : Int32) = 0 ∨ (1 : Int32) = 1) ∧ (∃ n13 f14, h9.2 x12 = zI 1 n13 f14 ∧ zIn p1 n13 ∧ ∀ h15, h15 = zP h9 x12 (zI 1 n13 (zU f14 p1.toNatClampNeg (1 : Int32))) → (zW (d + 1) m_Mo_keep e 31 [Value.ref p0, Value.int p1, Value.int x10, Value.int (0 : Int32)] [] h15 Q))))))))))) : zW (d + 1) m_Mo_keep e 0 [Value.ref p0, Value.int p1, zD, zD] [] h Q := zWg_run (C := zc_Mo_keep) (B := (0, 0)) rfl rfl [31] 19 0 _ _ _ K
set_option maxRecDepth 100000 in
theorem b_Mo_keep_31 {d : Nat} {e : Nat × Nat} {h : zH} {Q : zQ} {p0 : Nat} {p1 : Int32} {p2 : Int32} {p3 : Int32} (K : (if (115 : Int32) ≤ p3 then Q (some (Value.int p2)) h else ∃ F1, h.2 p0 = zO 10 F1 ∧ ∃ x2, F1 2 = Value.ref x2 ∧ (∃ F3, h.2 p0 = zO 10 F3 ∧ ∃ x4, F3 0 = Value.ref x4 ∧ (∃ n5 f6, h.2 x4 = zI 0 n5 f6 ∧ zIn p3 n5 ∧ ((∃ n7 f8, h.2 x2 = zI 0 n7 f8 ∧ zIn (((115 : Int32) * p1) + p3) n7 ∧ ∀ h9, h9 = zP h x2 (zI 0 n7 (zU f8 (((115 : Int32) * p1) + p3).toNatClampNeg (f6 p3.toNatClampNeg))) → (zW (d + 1) m_Mo_keep e 31 [Value.ref p0, Value.int p1, Value.int p2, Value.int (p3 + 1)] [] h9 Q))))))) : zW (d + 1) m_Mo_keep e 31 [Value.ref p0, Value.int p1, Value.int p2, Value.int p3] [] h Q := zWg_run (C := zc_Mo_keep) (B := (0, 0)) rfl rfl [31] 17 31 _ _ _ K
set_option maxRecDepth 100000 in
theorem b_Mo_back_0 {d : Nat} {e : Nat × Nat} {h : zH} {Q : zQ} {p0 : Nat} {p1 : Int32} (K : zW d m_Mo_in h.1 0 [Value.long p1.toInt64, zD, Value.long (0 : Int64), zD, Value.long (1 : Int64), zD] [] h (fun r1 h2 => ∃ x3, r1 = some (Value.int x3) ∧ ((if x3 = 0 then Q (some (Value.int (-1 : Int32))) h2 else ∃ F4, h2.2 p0 = zO 10 F4 ∧ ∃ x5, F4 3 = Value.ref x5 ∧ (∃ n6 f7, h2.2 x5 = zI 1 n6 f7 ∧ zIn p1 n6 ∧ ((if (f7 p1.toNatClampNeg) = 0 then Q (some (Value.int (-2 : Int32))) h2 else zW (d + 1) m_Mo_back e 26 [Value.ref p0, Value.int p1, Value.int (0 : Int32)] [] h2 Q))))))) : zW (d + 1) m_Mo_back e 0 [Value.ref p0, Value.int p1, zD] [] h Q := zWg_run (C := zc_Mo_back) (B := (0, 0)) rfl rfl [26] 13 0 _ _ _ K
set_option maxRecDepth 100000 in
theorem b_Mo_back_26 {d : Nat} {e : Nat × Nat} {h : zH} {Q : zQ} {p0 : Nat} {p1 : Int32} {p2 : Int32} (K : (if (115 : Int32) ≤ p2 then (∃ F4, h.2 p0 = zO 10 F4) ∧ zW d m_Mo_stamps h.1 0 [Value.ref p0, zD, zD] [] h (fun r1 h2 => ∃ x3, r1 = some (Value.int x3) ∧ (Q (some (Value.int x3)) h2)) else ∃ F5, h.2 p0 = zO 10 F5 ∧ ∃ x6, F5 0 = Value.ref x6 ∧ (∃ F7, h.2 p0 = zO 10 F7 ∧ ∃ x8, F7 2 = Value.ref x8 ∧ (∃ n9 f10, h.2 x8 = zI 0 n9 f10 ∧ zIn (((115 : Int32) * p1) + p2) n9 ∧ ((∃ n11 f12, h.2 x6 = zI 0 n11 f12 ∧ zIn p2 n11 ∧ ∀ h13, h13 = zP h x6 (zI 0 n11 (zU f12 p2.toNatClampNeg (f10 (((115 : Int32) * p1) + p2).toNatClampNeg))) → (zW (d + 1) m_Mo_back e 26 [Value.ref p0, Value.int p1, Value.int (p2 + 1)] [] h13 Q))))))) : zW (d + 1) m_Mo_back e 26 [Value.ref p0, Value.int p1, Value.int p2] [] h Q := zWg_run (C := zc_Mo_back) (B := (0, 0)) rfl rfl [26] 17 26 _ _ _ K
set_option maxRecDepth 100000 in
theorem b_Mo_isSheet_0 {d : Nat} {e : Nat × Nat} {h : zH} {Q : zQ} {p0 : Int32} {p1 : Int32} (K : zW d m_Mo_in h.1 0 [Value.long p0.toInt64, zD, Value.long (0 : Int64), zD, Value.long (3 : Int64), zD] [] h (fun r1 h2 => ∃ x3, r1 = some (Value.int x3) ∧ ((if x3 = 0 then (((0 : Int32) = 0 ∨ (0 : Int32) = 1) ∧ Q (some (Value.int (0 : Int32))) h2) else zW d m_Mo_in h2.1 0 [Value.long p1.toInt64, zD, Value.long (0 : Int64), zD, Value.long (2 : Int64), zD] [] h2 (fun r4 h5 => ∃ x6, r4 = some (Value.int x6) ∧ ((if x6 = 0 then (((0 : Int32) = 0 ∨ (0 : Int32) = 1) ∧ Q (some (Value.int (0 : Int32))) h5) else (((1 : Int32) = 0 ∨ (1 : Int32) = 1) ∧ Q (some (Value.int (1 : Int32))) h5)))))))) : zW (d + 1) m_Mo_isSheet e 0 [Value.int p0, Value.int p1] [] h Q := zWg_run (C := zc_Mo_isSheet) (B := (0, 0)) rfl rfl [] 15 0 _ _ _ K
set_option maxRecDepth 100000 in
theorem b_Mo_sheet_0 {d : Nat} {e : Nat × Nat} {h : zH} {Q : zQ} {p0 : Nat} {p1 : Int32} {p2 : Int32} {p3 : Int32} (K : zW d m_Mo_isSheet h.1 0 [Value.int p1, Value.int p2] [] h (fun r1 h2 => ∃ x3, r1 = some (Value.int x3) ∧ ((if x3 = 0 then Q (some (Value.int (-1 : Int32))) h2 else (if p3 ≤ (48 : Int32) then (if 0 ≤ p3 then ∃ F4, h2.2 p0 = zO 10 F4 ∧ ∃ x5, F4 36 = Value.ref x5 ∧ ((∃ n6 f7, h2.2 x5 = zI 0 n6 f7 ∧ zIn p1 n6 ∧ ∀ h8, h8 = zP h2 x5 (zI 0 n6 (zU f7 p1.toNatClampNeg p2)) → (∃ F9, h8.2 p0 = zO 10 F9 ∧ ∃ x10, F9 37 = Value.ref x10 ∧ ((∃ n11 f12, h8.2 x10 = zI 0 n11 f12 ∧ zIn p1 n11 ∧ ∀ h13, h13 = zP h8 x10 (zI 0 n11 (zU f12 p1.toNatClampNeg p3)) → (zW (d + 1) m_Mo_sheet e 40 [Value.ref p0, Value.int p1, zD, zD, Value.int (0 : Int32)] [] h13 Q)))))) else Q (some (Value.int (-14 : Int32))) h2) else Q (some (Value.int (-1 : Int32))) h2))))) : zW (d + 1) m_Mo_sheet e 0 [Value.ref p0, Value.int p1, Value.int p2, Value.int p3, zD] [] h Q := zWg_run (C := zc_Mo_sheet) (B := (0, 0)) rfl rfl [40] 21 0 _ _ _ K
set_option maxRecDepth 100000 in
theorem b_Mo_sheet_40 {d : Nat} {e : Nat × Nat} {h : zH} {Q : zQ} {p0 : Nat} {p1 : Int32} {p4 : Int32} (K : (if (48 : Int32) ≤ p4 then Q (some (Value.int (1 : Int32))) h else ∃ F1, h.2 p0 = zO 10 F1 ∧ ∃ x2, F1 38 = Value.ref x2 ∧ ((∃ n3 f4, h.2 x2 = zI 0 n3 f4 ∧ zIn (((48 : Int32) * p1) + p4) n3 ∧ ∀ h5, h5 = zP h x2 (zI 0 n3 (zU f4 (((48 : Int32) * p1) + p4).toNatClampNeg (0 : Int32))) → (zW (d + 1) m_Mo_sheet e 40 [Value.ref p0, Value.int p1, zD, zD, Value.int (p4 + 1)] [] h5 Q))))) : zW (d + 1) m_Mo_sheet e 40 [Value.ref p0, Value.int p1, zD, zD, Value.int p4] [] h Q := zWg_run (C := zc_Mo_sheet) (B := (0, 0)) rfl rfl [40] 14 40 _ _ _ K
set_option maxRecDepth 100000 in
theorem b_Mo_lay_0 {d : Nat} {e : Nat × Nat} {h : zH} {Q : zQ} {p0 : Nat} {p1 : Int32} {p2 : Int32} {p3 : Int32} (K : zW d m_Mo_isSheet h.1 0 [Value.int p1, Value.int (0 : Int32)] [] h (fun r1 h2 => ∃ x3, r1 = some (Value.int x3) ∧ ((if x3 = 0 then Q (some (Value.int (-1 : Int32))) h2 else zW (d + 1) m_Mo_lay e 10 [Value.ref p0, Value.int p1, Value.int p2, Value.int p3] [] h2 Q)))) : zW (d + 1) m_Mo_lay e 0 [Value.ref p0, Value.int p1, Value.int p2, Value.int p3] [] h Q := zWg_run (C := zc_Mo_lay) (B := (0, 0)) rfl rfl [10] 6 0 _ _ _ K
set_option maxRecDepth 100000 in
theorem b_Mo_lay_10 {d : Nat} {e : Nat × Nat} {h : zH} {Q : zQ} {p0 : Nat} {p1 : Int32} {p2 : Int32} {p3 : Int32} (K : ∃ F1, h.2 p0 = zO 10 F1 ∧ ∃ x2, F1 36 = Value.ref x2 ∧ (∃ n3 f4, h.2 x2 = zI 0 n3 f4 ∧ zIn p1 n3 ∧ ((if (f4 p1.toNatClampNeg) = (-4 : Int32) then Q (some (Value.int (-11 : Int32))) h else ∃ F5, h.2 p0 = zO 10 F5 ∧ ∃ x6, F5 37 = Value.ref x6 ∧ (∃ n7 f8, h.2 x6 = zI 0 n7 f8 ∧ zIn p1 n7 ∧ (zW d m_Mo_in h.1 0 [Value.long p2.toInt64, zD, Value.long (0 : Int64), zD, Value.long (((f8 p1.toNatClampNeg) - (1 : Int32)).toInt64), zD] [] h (fun r9 h10 => ∃ x11, r9 = some (Value.int x11) ∧ ((if x11 = 0 then Q (some (Value.int (-13 : Int32))) h10 else ∃ F12, h10.2 p0 = zO 10 F12 ∧ ∃ x13, F12 38 = Value.ref x13 ∧ (∃ F14, h10.2 p0 = zO 10 F14 ∧ ∃ x15, F14 36 = Value.ref x15 ∧ (∃ n16 f17, h10.2 x15 = zI 0 n16 f17 ∧ zIn p1 n16 ∧ ((if (f17 p1.toNatClampNeg) = 0 then (∃ n18 f19, h10.2 x13 = zI 0 n18 f19 ∧ zIn (((48 : Int32) * p1) + p2) n18 ∧ ∀ h20, h20 = zP h10 x13 (zI 0 n18 (zU f19 (((48 : Int32) * p1) + p2).toNatClampNeg p3.toInt16.toInt32)) → (Q (some (Value.int (1 : Int32))) h20)) else (∃ n21 f22, h10.2 x13 = zI 0 n21 f22 ∧ zIn (((48 : Int32) * p1) + p2) n21 ∧ ∀ h23, h23 = zP h10 x13 (zI 0 n21 (zU f22 (((48 : Int32) * p1) + p2).toNatClampNeg p3)) → (Q (some (Value.int (1 : Int32))) h23))))))))))))))) : zW (d + 1) m_Mo_lay e 10 [Value.ref p0, Value.int p1, Value.int p2, Value.int p3] [] h Q := zWg_run (C := zc_Mo_lay) (B := (0, 0)) rfl rfl [10] 36 10 _ _ _ K
set_option maxRecDepth 100000 in
theorem b_Mo_read_0 {d : Nat} {e : Nat × Nat} {h : zH} {Q : zQ} {p0 : Nat} {p1 : Int32} {p2 : Int32} {p3 : Int32} {p4 : Int32} {p5 : Int32} (K : zW d m_Mo_isSheet h.1 0 [Value.int p1, Value.int p2] [] h (fun r1 h2 => ∃ x3, r1 = some (Value.int x3) ∧ ((if x3 = 0 then Q (some (Value.int (-1 : Int32))) h2 else (∃ F10, h2.2 p0 = zO 10 F10) ∧ zW d m_Mo_isClock h2.1 0 [Value.ref p0, Value.int p4] [] h2 (fun r4 h5 => ∃ x6, r4 = some (Value.int x6) ∧ ((if x6 = 0 then Q (some (Value.int (-1 : Int32))) h5 else zW d m_Mo_in h5.1 0 [Value.long p5.toInt64, zD, Value.long (0 : Int64), zD, Value.long (16 : Int64), zD] [] h5 (fun r7 h8 => ∃ x9, r7 = some (Value.int x9) ∧ ((if x9 = 0 then Q (some (Value.int (-1 : Int32))) h8 else zW (d + 1) m_Mo_read e 35 [Value.ref p0, Value.int p1, Value.int p2, Value.int p3, Value.int p4, Value.int p5, Value.int (0 : Int32), zD, zD, zD] [] h8 Q)))))))))) : zW (d + 1) m_Mo_read e 0 [Value.ref p0, Value.int p1, Value.int p2, Value.int p3, Value.int p4, Value.int p5, zD, zD, zD, zD] [] h Q := zWg_run (C := zc_Mo_read) (B := (0, 0)) rfl rfl [35, 102, 149] 16 0 _ _ _ K
set_option maxRecDepth 100000 in
theorem b_Mo_read_35 {d : Nat} {e : Nat × Nat} {h : zH} {Q : zQ} {p0 : Nat} {p1 : Int32} {p2 : Int32} {p3 : Int32} {p4 : Int32} {p5 : Int32} {p6 : Int32} (K : (if p5 ≤ p6 then zW (d + 1) m_Mo_read e 149 [Value.ref p0, Value.int p1, zD, Value.int p3, Value.int p4, Value.int p5, Value.int (0 : Int32), zD, zD, zD] [] h Q else ∃ F1, h.2 p0 = zO 10 F1 ∧ ∃ x2, F1 36 = Value.ref x2 ∧ (∃ n3 f4, h.2 x2 = zI 0 n3 f4 ∧ zIn p1 n3 ∧ ((if (f4 p1.toNatClampNeg) = (-4 : Int32) then zW (d + 1) m_Mo_read e 102 [Value.ref p0, Value.int p1, Value.int p2, Value.int p3, Value.int p4, Value.int p5, Value.int p6, Value.long (p3.toInt64 + p6.toInt64), zD, zD] [Value.int (1 : Int32)] h Q else ∃ F5, h.2 p0 = zO 10 F5 ∧ ∃ x6, F5 36 = Value.ref x6 ∧ (∃ n7 f8, h.2 x6 = zI 0 n7 f8 ∧ zIn p1 n7 ∧ ((if (f8 p1.toNatClampNeg) = p2 then ∃ F9, h.2 p0 = zO 10 F9 ∧ ∃ x10, F9 37 = Value.ref x10 ∧ (∃ n11 f12, h.2 x10 = zI 0 n11 f12 ∧ zIn p1 n11 ∧ (zW d m_Mo_in h.1 0 [Value.long (p3.toInt64 + p6.toInt64), zD, Value.long (0 : Int64), zD, Value.long (((f12 p1.toNatClampNeg) - (1 : Int32)).toInt64), zD] [] h (fun r13 h14 => ∃ x15, r13 = some (Value.int x15) ∧ ((if x15 = 0 then zW (d + 1) m_Mo_read e 102 [Value.ref p0, Value.int p1, Value.int p2, Value.int p3, Value.int p4, Value.int p5, Value.int p6, Value.long (p3.toInt64 + p6.toInt64), zD, zD] [Value.int (3 : Int32)] h14 Q else zW (d + 1) m_Mo_read e 102 [Value.ref p0, Value.int p1, Value.int p2, Value.int p3, Value.int p4, Value.int p5, Value.int p6, Value.long (p3.toInt64 + p6.toInt64), zD, zD] [Value.int (0 : Int32)] h14 Q))))) else zW (d + 1) m_Mo_read e 102 [Value.ref p0, Value.int p1, Value.int p2, Value.int p3, Value.int p4, Value.int p5, Value.int p6, Value.long (p3.toInt64 + p6.toInt64), zD, zD] [Value.int (2 : Int32)] h Q)))))))) : zW (d + 1) m_Mo_read e 35 [Value.ref p0, Value.int p1, Value.int p2, Value.int p3, Value.int p4, Value.int p5, Value.int p6, zD, zD, zD] [] h Q := zWg_run (C := zc_Mo_read) (B := (0, 0)) rfl rfl [35, 102, 149] 34 35 _ _ _ K
set_option maxRecDepth 100000 in
theorem b_Mo_read_149 {d : Nat} {e : Nat × Nat} {h : zH} {Q : zQ} {p0 : Nat} {p1 : Int32} {p3 : Int32} {p4 : Int32} {p5 : Int32} {p6 : Int32} (K : (if p5 ≤ p6 then Q (some (Value.int p5)) h else ∃ F1, h.2 p0 = zO 10 F1 ∧ ∃ x2, F1 38 = Value.ref x2 ∧ (∃ n3 f4, h.2 x2 = zI 0 n3 f4 ∧ zIn ((((48 : Int32) * p1) + p3) + p6) n3 ∧ (∃ F5, h.2 p0 = zO 10 F5 ∧ ∃ x6, F5 0 = Value.ref x6 ∧ (zW d m_Mo_at h.1 0 [Value.int p6, Value.int p4] [] h (fun r7 h8 => ∃ x9, r7 = some (Value.int x9) ∧ ((if 0 ≤ (f4 ((((48 : Int32) * p1) + p3) + p6).toNatClampNeg) then (∃ n10 f11, h8.2 x6 = zI 0 n10 f11 ∧ zIn x9 n10 ∧ ∀ h12, h12 = zP h8 x6 (zI 0 n10 (zU f11 x9.toNatClampNeg (f4 ((((48 : Int32) * p1) + p3) + p6).toNatClampNeg))) → (zW (d + 1) m_Mo_read e 149 [Value.ref p0, Value.int p1, zD, Value.int p3, Value.int p4, Value.int p5, Value.int (p6 + 1), zD, zD, zD] [] h12 Q)) else (∃ n13 f14, h8.2 x6 = zI 0 n13 f14 ∧ zIn x9 n13 ∧ ∀ h15, h15 = zP h8 x6 (zI 0 n13 (zU f14 x9.toNatClampNeg (-4 : Int32))) → (zW (d + 1) m_Mo_read e 149 [Value.ref p0, Value.int p1, zD, Value.int p3, Value.int p4, Value.int p5, Value.int (p6 + 1), zD, zD, zD] [] h15 Q)))))))))) : zW (d + 1) m_Mo_read e 149 [Value.ref p0, Value.int p1, zD, Value.int p3, Value.int p4, Value.int p5, Value.int p6, zD, zD, zD] [] h Q := zWg_run (C := zc_Mo_read) (B := (0, 0)) rfl rfl [35, 102, 149] 26 149 _ _ _ K
set_option maxRecDepth 100000 in
theorem b_Mo_read_102 {d : Nat} {e : Nat × Nat} {h : zH} {Q : zQ} {p0 : Nat} {p1 : Int32} {p2 : Int32} {p3 : Int32} {p4 : Int32} {p5 : Int32} {p6 : Int32} {p7 : Int64} {s0 : Int32} (K : (if s0 ≤ 0 then ∃ F1, h.2 p0 = zO 10 F1 ∧ ∃ x2, F1 38 = Value.ref x2 ∧ (∃ n3 f4, h.2 x2 = zI 0 n3 f4 ∧ zIn (((48 : Int32) * p1) + p7.toInt32) n3 ∧ ((if (f4 (((48 : Int32) * p1) + p7.toInt32).toNatClampNeg) ≤ (9999 : Int32) then zW (d + 1) m_Mo_read e 35 [Value.ref p0, Value.int p1, Value.int p2, Value.int p3, Value.int p4, Value.int p5, Value.int (p6 + 1), zD, zD, zD] [] h Q else Q (some (Value.int ((-20 : Int32) - p6))) h))) else Q (some (Value.int ((-10 : Int32) - s0))) h)) : zW (d + 1) m_Mo_read e 102 [Value.ref p0, Value.int p1, Value.int p2, Value.int p3, Value.int p4, Value.int p5, Value.int p6, Value.long p7, zD, zD] [Value.int s0] h Q := zWg_run (C := zc_Mo_read) (B := (0, 0)) rfl rfl [35, 102, 149] 18 102 _ _ _ K
set_option maxRecDepth 100000 in
theorem b_Mo_count_0 {d : Nat} {e : Nat × Nat} {h : zH} {Q : zQ} {p0 : Nat} {p1 : Int32} (K : (if p1 = 0 then (∃ F1, h.2 p0 = zO 10 F1 ∧ ∃ x2, F1 3 = Value.ref x2 ∧ (∃ n3 f4, h.2 x2 = zI 1 n3 f4 ∧ zIn (0 : Int32) n3 ∧ (zW d m_Mo_flag h.1 0 [Value.int (f4 (0 : Int32).toNatClampNeg)] [] h (fun r5 h6 => ∃ x7, r5 = some (Value.int x7) ∧ (∃ F8, h6.2 p0 = zO 10 F8 ∧ ∃ x9, F8 3 = Value.ref x9 ∧ (∃ n10 f11, h6.2 x9 = zI 1 n10 f11 ∧ zIn (1 : Int32) n10 ∧ (zW d m_Mo_flag h6.1 0 [Value.int (f11 (1 : Int32).toNatClampNeg)] [] h6 (fun r12 h13 => ∃ x14, r12 = some (Value.int x14) ∧ (Q (some (Value.int (x7 + x14))) h13))))))))) else if p1 = 1 then (∃ F15, h.2 p0 = zO 10 F15 ∧ ∃ x16, F15 5 = Value.int x16 ∧ (Q (some (Value.int x16)) h)) else if p1 = 2 then (∃ F17, h.2 p0 = zO 10 F17 ∧ ∃ x18, F17 36 = Value.ref x18 ∧ (∃ n19 f20, h.2 x18 = zI 0 n19 f20 ∧ zIn (0 : Int32) n19 ∧ ((if (f20 (0 : Int32).toNatClampNeg) = (-4 : Int32) then Q (some (Value.int (-4 : Int32))) h else ∃ F21, h.2 p0 = zO 10 F21 ∧ ∃ x22, F21 37 = Value.ref x22 ∧ (∃ n23 f24, h.2 x22 = zI 0 n23 f24 ∧ zIn (0 : Int32) n23 ∧ (Q (some (Value.int (f24 (0 : Int32).toNatClampNeg))) h)))))) else (Q (some (Value.int (-1 : Int32))) h))) : zW (d + 1) m_Mo_count e 0 [Value.ref p0, Value.int p1] [] h Q := zWg_run (C := zc_Mo_count) (B := (0, 0)) rfl rfl [] 14 0 _ _ _ K
end
section
set_option maxRecDepth 100000 in
theorem b_Law_law_0 {d : Nat} {e : Nat × Nat} {h : zH} {Q : zQ} {p0 : Nat} (K : (h.1.1 + 1 ≤ e.1 + 1000 ∧ h.1.2 + 12 ≤ e.2 + 20000) ∧ ∀ h1, h1 = zNew h 12 (zO 9 (zDf [2, 2, 2, 2, 2, 2, 2, 2, 2, 2, 0, 0])) → ((h1.1.1 + 130 ≤ e.1 + 1000 ∧ h1.1.2 + 2548 ≤ e.2 + 20000) ∧ zW d m_BL_init h1.1 0 [Value.ref (8 + h.1.1), zD] [] h1 (fun r2 h3 => r2 = none ∧ ((h3.1.1 + 1 ≤ e.1 + 1000 ∧ h3.1.2 + 39 ≤ e.2 + 20000) ∧ ∀ h4, h4 = zNew h3 39 (zO 10 (zDf [2, 2, 2, 2, 2, 0, 0, 0, 0, 0, 0, 0, 0, 0, 0, 1, 1, 1, 1, 1, 0, 1, 2, 2, 0, 2, 2, 2, 2, 0, 0, 0, 1, 0, 2, 2, 2, 2, 2])) → ((h4.1.1 + 16 ≤ e.1 + 1000 ∧ h4.1.2 + 1078 ≤ e.2 + 20000) ∧ zW d m_Mo_init h4.1 0 [Value.ref (8 + h3.1.1), zD] [] h4 (fun r5 h6 => r5 = none ∧ (zW (d + 1) m_Law_law e 18 [Value.ref p0, Value.ref (8 + h.1.1), Value.ref (8 + h3.1.1), Value.int (0 : Int32)] [] h6 Q))))))) : zW (d + 1) m_Law_law e 0 [Value.ref p0, zD, zD, zD] [] h Q := zWg_run (C := zc_Law_law) (B := (1000, 20000)) rfl rfl [18] 10 0 _ _ _ K
set_option maxRecDepth 100000 in
theorem b_Law_law_18 {d : Nat} {e : Nat × Nat} {h : zH} {Q : zQ} {p0 : Nat} {p1 : Nat} {p2 : Nat} {p3 : Int32} (K : ∃ n1 f2, h.2 p0 = zI 3 n1 f2 ∧ ((if ((Int32.ofNat n1) - (6 : Int32)) < p3 then (((1 : Int32) = 0 ∨ (1 : Int32) = 1) ∧ Q (some (Value.int (1 : Int32))) h) else ∃ n3 f4, h.2 p0 = zI 3 n3 f4 ∧ zIn p3 n3 ∧ ((if ((f4 p3.toNatClampNeg) &&& (31 : Int32)) = 0 then (∃ n5 f6, h.2 p0 = zI 3 n5 f6 ∧ zIn (p3 + (1 : Int32)) n5 ∧ ((∃ F16, h.2 p1 = zO 9 F16) ∧ zW d m_BL_feed h.1 0 [Value.ref p1, Value.int (f6 (p3 + (1 : Int32)).toNatClampNeg)] [] h (fun r7 h8 => ∃ x9, r7 = some (Value.int x9) ∧ (∃ n10 f11, h8.2 p0 = zI 3 n10 f11 ∧ zIn (p3 + (1 : Int32)) n10 ∧ ((∃ F15, h8.2 p2 = zO 10 F15) ∧ zW d m_Mo_feed h8.1 0 [Value.ref p2, Value.int (f11 (p3 + (1 : Int32)).toNatClampNeg)] [] h8 (fun r12 h13 => ∃ x14, r12 = some (Value.int x14) ∧ ((if x9 = x14 then zW (d + 1) m_Law_law e 18 [Value.ref p0, Value.ref p1, Value.ref p2, Value.int (p3 + 6)] [] h13 Q else (((0 : Int32) = 0 ∨ (0 : Int32) = 1) ∧ Q (some (Value.int (0 : Int32))) h13))))))))) else if ((f4 p3.toNatClampNeg) &&& (31 : Int32)) = 1 then (∃ n17 f18, h.2 p0 = zI 3 n17 f18 ∧ zIn (p3 + (1 : Int32)) n17 ∧ ((∃ F28, h.2 p1 = zO 9 F28) ∧ zW d m_BL_end h.1 0 [Value.ref p1, Value.int (f18 (p3 + (1 : Int32)).toNatClampNeg), zD] [] h (fun r19 h20 => ∃ x21, r19 = some (Value.int x21) ∧ (∃ n22 f23, h20.2 p0 = zI 3 n22 f23 ∧ zIn (p3 + (1 : Int32)) n22 ∧ ((∃ F27, h20.2 p2 = zO 10 F27) ∧ zW d m_Mo_end h20.1 0 [Value.ref p2, Value.int (f23 (p3 + (1 : Int32)).toNatClampNeg), zD] [] h20 (fun r24 h25 => ∃ x26, r24 = some (Value.int x26) ∧ ((if x21 = x26 then zW (d + 1) m_Law_law e 18 [Value.ref p0, Value.ref p1, Value.ref p2, Value.int (p3 + 6)] [] h25 Q else (((0 : Int32) = 0 ∨ (0 : Int32) = 1) ∧ Q (some (Value.int (0 : Int32))) h25))))))))) else if ((f4 p3.toNatClampNeg) &&& (31 : Int32)) = 2 then ((∃ F36, h.2 p1 = zO 9 F36) ∧ zW d m_BL_text h.1 0 [Value.ref p1, zD] [] h (fun r29 h30 => ∃ x31, r29 = some (Value.int x31) ∧ ((∃ F35, h30.2 p2 = zO 10 F35) ∧ zW d m_Mo_text h30.1 0 [Value.ref p2, zD] [] h30 (fun r32 h33 => ∃ x34, r32 = some (Value.int x34) ∧ ((if x31 = x34 then zW (d + 1) m_Law_law e 18 [Value.ref p0, Value.ref p1, Value.ref p2, Value.int (p3 + 6)] [] h33 Q else (((0 : Int32) = 0 ∨ (0 : Int32) = 1) ∧ Q (some (Value.int (0 : Int32))) h33))))))) else if ((f4 p3.toNatClampNeg) &&& (31 : Int32)) = 3 then ((∃ F44, h.2 p1 = zO 9 F44) ∧ zW d m_BL_fault h.1 0 [Value.ref p1] [] h (fun r37 h38 => ∃ x39, r37 = some (Value.int x39) ∧ ((∃ F43, h38.2 p2 = zO 10 F43) ∧ zW d m_Mo_fault h38.1 0 [Value.ref p2] [] h38 (fun r40 h41 => ∃ x42, r40 = some (Value.int x42) ∧ ((if x39 = x42 then zW (d + 1) m_Law_law e 18 [Value.ref p0, Value.ref p1, Value.ref p2, Value.int (p3 + 6)] [] h41 Q else (((0 : Int32) = 0 ∨ (0 : Int32) = 1) ∧ Q (some (Value.int (0 : Int32))) h41))))))) else if ((f4 p3.toNatClampNeg) &&& (31 : Int32)) = 4 then (∃ n45 f46, h.2 p0 = zI 3 n45 f46 ∧ zIn (p3 + (1 : Int32)) n45 ∧ ((∃ F56, h.2 p1 = zO 9 F56) ∧ zW d m_BL_rule h.1 0 [Value.ref p1, Value.int (f46 (p3 + (1 : Int32)).toNatClampNeg)] [] h (fun r47 h48 => ∃ x49, r47 = some (Value.int x49) ∧ (∃ n50 f51, h48.2 p0 = zI 3 n50 f51 ∧ zIn (p3 + (1 : Int32)) n50 ∧ ((∃ F55, h48.2 p2 = zO 10 F55) ∧ zW d m_Mo_rule h48.1 0 [Value.ref p2, Value.int (f51 (p3 + (1 : Int32)).toNatClampNeg)] [] h48 (fun r52 h53 => ∃ x54, r52 = some (Value.int x54) ∧ ((if x49 = x54 then zW (d + 1) m_Law_law e 18 [Value.ref p0, Value.ref p1, Value.ref p2, Value.int (p3 + 6)] [] h53 Q else (((0 : Int32) = 0 ∨ (0 : Int32) = 1) ∧ Q (some (Value.int (0 : Int32))) h53))))))))) else if ((f4 p3.toNatClampNeg) &&& (31 : Int32)) = 5 then (∃ n57 f58, h.2 p0 = zI 3 n57 f58 ∧ zIn (p3 + (1 : Int32)) n57 ∧ (∃ n59 f60, h.2 p0 = zI 3 n59 f60 ∧ zIn (p3 + (2 : Int32)) n59 ∧ ((∃ F72, h.2 p1 = zO 9 F72) ∧ zW d m_BL_stamp h.1 0 [Value.ref p1, Value.int (f58 (p3 + (1 : Int32)).toNatClampNeg), Value.int (f60 (p3 + (2 : Int32)).toNatClampNeg)] [] h (fun r61 h62 => ∃ x63, r61 = some (Value.int x63) ∧ (∃ n64 f65, h62.2 p0 = zI 3 n64 f65 ∧ zIn (p3 + (1 : Int32)) n64 ∧ (∃ n66 f67, h62.2 p0 = zI 3 n66 f67 ∧ zIn (p3 + (2 : Int32)) n66 ∧ ((∃ F71, h62.2 p2 = zO 10 F71) ∧ zW d m_Mo_stamp h62.1 0 [Value.ref p2, Value.int (f65 (p3 + (1 : Int32)).toNatClampNeg), Value.int (f67 (p3 + (2 : Int32)).toNatClampNeg)] [] h62 (fun r68 h69 => ∃ x70, r68 = some (Value.int x70) ∧ ((if x63 = x70 then zW (d + 1) m_Law_law e 18 [Value.ref p0, Value.ref p1, Value.ref p2, Value.int (p3 + 6)] [] h69 Q else (((0 : Int32) = 0 ∨ (0 : Int32) = 1) ∧ Q (some (Value.int (0 : Int32))) h69))))))))))) else if ((f4 p3.toNatClampNeg) &&& (31 : Int32)) = 6 then (∃ n73 f74, h.2 p0 = zI 3 n73 f74 ∧ zIn (p3 + (1 : Int32)) n73 ∧ (∃ n75 f76, h.2 p0 = zI 3 n75 f76 ∧ zIn (p3 + (2 : Int32)) n75 ∧ ((∃ F88, h.2 p1 = zO 9 F88) ∧ zW d m_BL_clock h.1 0 [Value.ref p1, Value.int (f74 (p3 + (1 : Int32)).toNatClampNeg), Value.int (f76 (p3 + (2 : Int32)).toNatClampNeg)] [] h (fun r77 h78 => ∃ x79, r77 = some (Value.int x79) ∧ (∃ n80 f81, h78.2 p0 = zI 3 n80 f81 ∧ zIn (p3 + (1 : Int32)) n80 ∧ (∃ n82 f83, h78.2 p0 = zI 3 n82 f83 ∧ zIn (p3 + (2 : Int32)) n82 ∧ ((∃ F87, h78.2 p2 = zO 10 F87) ∧ zW d m_Mo_clock h78.1 0 [Value.ref p2, Value.int (f81 (p3 + (1 : Int32)).toNatClampNeg), Value.int (f83 (p3 + (2 : Int32)).toNatClampNeg)] [] h78 (fun r84 h85 => ∃ x86, r84 = some (Value.int x86) ∧ ((if x79 = x86 then zW (d + 1) m_Law_law e 18 [Value.ref p0, Value.ref p1, Value.ref p2, Value.int (p3 + 6)] [] h85 Q else (((0 : Int32) = 0 ∨ (0 : Int32) = 1) ∧ Q (some (Value.int (0 : Int32))) h85))))))))))) else if ((f4 p3.toNatClampNeg) &&& (31 : Int32)) = 7 then (∃ n89 f90, h.2 p0 = zI 3 n89 f90 ∧ zIn (p3 + (1 : Int32)) n89 ∧ (∃ n91 f92, h.2 p0 = zI 3 n91 f92 ∧ zIn (p3 + (2 : Int32)) n91 ∧ (∃ n93 f94, h.2 p0 = zI 3 n93 f94 ∧ zIn (p3 + (3 : Int32)) n93 ∧ ((∃ F108, h.2 p1 = zO 9 F108) ∧ zW d m_BL_line h.1 0 [Value.ref p1, Value.int (f90 (p3 + (1 : Int32)).toNatClampNeg), Value.int (f92 (p3 + (2 : Int32)).toNatClampNeg), Value.int (f94 (p3 + (3 : Int32)).toNatClampNeg), zD] [] h (fun r95 h96 => ∃ x97, r95 = some (Value.int x97) ∧ (∃ n98 f99, h96.2 p0 = zI 3 n98 f99 ∧ zIn (p3 + (1 : Int32)) n98 ∧ (∃ n100 f101, h96.2 p0 = zI 3 n100 f101 ∧ zIn (p3 + (2 : Int32)) n100 ∧ (∃ n102 f103, h96.2 p0 = zI 3 n102 f103 ∧ zIn (p3 + (3 : Int32)) n102 ∧ ((∃ F107, h96.2 p2 = zO 10 F107) ∧ zW d m_Mo_line h96.1 0 [Value.ref p2, Value.int (f99 (p3 + (1 : Int32)).toNatClampNeg), Value.int (f101 (p3 + (2 : Int32)).toNatClampNeg), Value.int (f103 (p3 + (3 : Int32)).toNatClampNeg)] [] h96 (fun r104 h105 => ∃ x106, r104 = some (Value.int x106) ∧ ((if x97 = x106 then zW (d + 1) m_Law_law e 18 [Value.ref p0, Value.ref p1, Value.ref p2, Value.int (p3 + 6)] [] h105 Q else (((0 : Int32) = 0 ∨ (0 : Int32) = 1) ∧ Q (some (Value.int (0 : Int32))) h105))))))))))))) else if ((f4 p3.toNatClampNeg) &&& (31 : Int32)) = 8 then (∃ n109 f110, h.2 p0 = zI 3 n109 f110 ∧ zIn (p3 + (1 : Int32)) n109 ∧ (∃ n111 f112, h.2 p0 = zI 3 n111 f112 ∧ zIn (p3 + (2 : Int32)) n111 ∧ (∃ n113 f114, h.2 p0 = zI 3 n113 f114 ∧ zIn (p3 + (3 : Int32)) n113 ∧ ((∃ F128, h.2 p1 = zO 9 F128) ∧ zW d m_BL_sum h.1 0 [Value.ref p1, Value.int (f110 (p3 + (1 : Int32)).toNatClampNeg), Value.int (f112 (p3 + (2 : Int32)).toNatClampNeg), Value.int (f114 (p3 + (3 : Int32)).toNatClampNeg), zD] [] h (fun r115 h116 => ∃ x117, r115 = some (Value.long x117) ∧ (∃ n118 f119, h116.2 p0 = zI 3 n118 f119 ∧ zIn (p3 + (1 : Int32)) n118 ∧ (∃ n120 f121, h116.2 p0 = zI 3 n120 f121 ∧ zIn (p3 + (2 : Int32)) n120 ∧ (∃ n122 f123, h116.2 p0 = zI 3 n122 f123 ∧ zIn (p3 + (3 : Int32)) n122 ∧ ((∃ F127, h116.2 p2 = zO 10 F127) ∧ zW d m_Mo_sum h116.1 0 [Value.ref p2, Value.int (f119 (p3 + (1 : Int32)).toNatClampNeg), Value.int (f121 (p3 + (2 : Int32)).toNatClampNeg), Value.int (f123 (p3 + (3 : Int32)).toNatClampNeg)] [] h116 (fun r124 h125 => ∃ x126, r124 = some (Value.long x126) ∧ ((if (lg_cmp x117 x126) = 0 then zW (d + 1) m_Law_law e 18 [Value.ref p0, Value.ref p1, Value.ref p2, Value.int (p3 + 6)] [] h125 Q else (((0 : Int32) = 0 ∨ (0 : Int32) = 1) ∧ Q (some (Value.int (0 : Int32))) h125))))))))))))) else if ((f4 p3.toNatClampNeg) &&& (31 : Int32)) = 9 then (∃ n129 f130, h.2 p0 = zI 3 n129 f130 ∧ zIn (p3 + (1 : Int32)) n129 ∧ (∃ n131 f132, h.2 p0 = zI 3 n131 f132 ∧ zIn (p3 + (2 : Int32)) n131 ∧ (∃ n133 f134, h.2 p0 = zI 3 n133 f134 ∧ zIn (p3 + (3 : Int32)) n133 ∧ ((∃ F148, h.2 p1 = zO 9 F148) ∧ zW d m_BL_struck h.1 0 [Value.ref p1, Value.int (f130 (p3 + (1 : Int32)).toNatClampNeg), Value.int (f132 (p3 + (2 : Int32)).toNatClampNeg), Value.int (f134 (p3 + (3 : Int32)).toNatClampNeg), zD] [] h (fun r135 h136 => ∃ x137, r135 = some (Value.int x137) ∧ (∃ n138 f139, h136.2 p0 = zI 3 n138 f139 ∧ zIn (p3 + (1 : Int32)) n138 ∧ (∃ n140 f141, h136.2 p0 = zI 3 n140 f141 ∧ zIn (p3 + (2 : Int32)) n140 ∧ (∃ n142 f143, h136.2 p0 = zI 3 n142 f143 ∧ zIn (p3 + (3 : Int32)) n142 ∧ ((∃ F147, h136.2 p2 = zO 10 F147) ∧ zW d m_Mo_struck h136.1 0 [Value.ref p2, Value.int (f139 (p3 + (1 : Int32)).toNatClampNeg), Value.int (f141 (p3 + (2 : Int32)).toNatClampNeg), Value.int (f143 (p3 + (3 : Int32)).toNatClampNeg), zD] [] h136 (fun r144 h145 => ∃ x146, r144 = some (Value.int x146) ∧ ((if x137 = x146 then zW (d + 1) m_Law_law e 18 [Value.ref p0, Value.ref p1, Value.ref p2, Value.int (p3 + 6)] [] h145 Q else (((0 : Int32) = 0 ∨ (0 : Int32) = 1) ∧ Q (some (Value.int (0 : Int32))) h145))))))))))))) else if ((f4 p3.toNatClampNeg) &&& (31 : Int32)) = 10 then (∃ n149 f150, h.2 p0 = zI 3 n149 f150 ∧ zIn (p3 + (1 : Int32)) n149 ∧ (∃ n151 f152, h.2 p0 = zI 3 n151 f152 ∧ zIn (p3 + (2 : Int32)) n151 ∧ (∃ n153 f154, h.2 p0 = zI 3 n153 f154 ∧ zIn (p3 + (3 : Int32)) n153 ∧ ((∃ F168, h.2 p1 = zO 9 F168) ∧ zW d m_BL_far h.1 0 [Value.ref p1, Value.int (f150 (p3 + (1 : Int32)).toNatClampNeg), Value.int (f152 (p3 + (2 : Int32)).toNatClampNeg), Value.int (f154 (p3 + (3 : Int32)).toNatClampNeg), zD, zD, zD] [] h (fun r155 h156 => ∃ x157, r155 = some (Value.long x157) ∧ (∃ n158 f159, h156.2 p0 = zI 3 n158 f159 ∧ zIn (p3 + (1 : Int32)) n158 ∧ (∃ n160 f161, h156.2 p0 = zI 3 n160 f161 ∧ zIn (p3 + (2 : Int32)) n160 ∧ (∃ n162 f163, h156.2 p0 = zI 3 n162 f163 ∧ zIn (p3 + (3 : Int32)) n162 ∧ ((∃ F167, h156.2 p2 = zO 10 F167) ∧ zW d m_Mo_far h156.1 0 [Value.ref p2, Value.int (f159 (p3 + (1 : Int32)).toNatClampNeg), Value.int (f161 (p3 + (2 : Int32)).toNatClampNeg), Value.int (f163 (p3 + (3 : Int32)).toNatClampNeg)] [] h156 (fun r164 h165 => ∃ x166, r164 = some (Value.long x166) ∧ ((if (lg_cmp x157 x166) = 0 then zW (d + 1) m_Law_law e 18 [Value.ref p0, Value.ref p1, Value.ref p2, Value.int (p3 + 6)] [] h165 Q else (((0 : Int32) = 0 ∨ (0 : Int32) = 1) ∧ Q (some (Value.int (0 : Int32))) h165))))))))))))) else if ((f4 p3.toNatClampNeg) &&& (31 : Int32)) = 11 then (∃ n169 f170, h.2 p0 = zI 3 n169 f170 ∧ zIn (p3 + (1 : Int32)) n169 ∧ (∃ n171 f172, h.2 p0 = zI 3 n171 f172 ∧ zIn (p3 + (2 : Int32)) n171 ∧ ((∃ F184, h.2 p1 = zO 9 F184) ∧ zW d m_BL_cost h.1 0 [Value.ref p1, Value.int (f170 (p3 + (1 : Int32)).toNatClampNeg), Value.int (f172 (p3 + (2 : Int32)).toNatClampNeg)] [] h (fun r173 h174 => ∃ x175, r173 = some (Value.int x175) ∧ (∃ n176 f177, h174.2 p0 = zI 3 n176 f177 ∧ zIn (p3 + (1 : Int32)) n176 ∧ (∃ n178 f179, h174.2 p0 = zI 3 n178 f179 ∧ zIn (p3 + (2 : Int32)) n178 ∧ ((∃ F183, h174.2 p2 = zO 10 F183) ∧ zW d m_Mo_cost h174.1 0 [Value.ref p2, Value.int (f177 (p3 + (1 : Int32)).toNatClampNeg), Value.int (f179 (p3 + (2 : Int32)).toNatClampNeg)] [] h174 (fun r180 h181 => ∃ x182, r180 = some (Value.int x182) ∧ ((if x175 = x182 then zW (d + 1) m_Law_law e 18 [Value.ref p0, Value.ref p1, Value.ref p2, Value.int (p3 + 6)] [] h181 Q else (((0 : Int32) = 0 ∨ (0 : Int32) = 1) ∧ Q (some (Value.int (0 : Int32))) h181))))))))))) else if ((f4 p3.toNatClampNeg) &&& (31 : Int32)) = 12 then (∃ n185 f186, h.2 p0 = zI 3 n185 f186 ∧ zIn (p3 + (1 : Int32)) n185 ∧ (∃ n187 f188, h.2 p0 = zI 3 n187 f188 ∧ zIn (p3 + (2 : Int32)) n187 ∧ (∃ n189 f190, h.2 p0 = zI 3 n189 f190 ∧ zIn (p3 + (3 : Int32)) n189 ∧ ((∃ F204, h.2 p1 = zO 9 F204) ∧ zW d m_BL_chain h.1 0 [Value.ref p1, Value.int (f186 (p3 + (1 : Int32)).toNatClampNeg), Value.int (f188 (p3 + (2 : Int32)).toNatClampNeg), Value.int (f190 (p3 + (3 : Int32)).toNatClampNeg), zD, zD] [] h (fun r191 h192 => ∃ x193, r191 = some (Value.int x193) ∧ (∃ n194 f195, h192.2 p0 = zI 3 n194 f195 ∧ zIn (p3 + (1 : Int32)) n194 ∧ (∃ n196 f197, h192.2 p0 = zI 3 n196 f197 ∧ zIn (p3 + (2 : Int32)) n196 ∧ (∃ n198 f199, h192.2 p0 = zI 3 n198 f199 ∧ zIn (p3 + (3 : Int32)) n198 ∧ ((∃ F203, h192.2 p2 = zO 10 F203) ∧ zW d m_Mo_chain h192.1 0 [Value.ref p2, Value.int (f195 (p3 + (1 : Int32)).toNatClampNeg), Value.int (f197 (p3 + (2 : Int32)).toNatClampNeg), Value.int (f199 (p3 + (3 : Int32)).toNatClampNeg)] [] h192 (fun r200 h201 => ∃ x202, r200 = some (Value.int x202) ∧ ((if x193 = x202 then zW (d + 1) m_Law_law e 18 [Value.ref p0, Value.ref p1, Value.ref p2, Value.int (p3 + 6)] [] h201 Q else (((0 : Int32) = 0 ∨ (0 : Int32) = 1) ∧ Q (some (Value.int (0 : Int32))) h201))))))))))))) else if ((f4 p3.toNatClampNeg) &&& (31 : Int32)) = 13 then (∃ n205 f206, h.2 p0 = zI 3 n205 f206 ∧ zIn (p3 + (1 : Int32)) n205 ∧ (∃ n207 f208, h.2 p0 = zI 3 n207 f208 ∧ zIn (p3 + (2 : Int32)) n207 ∧ (∃ n209 f210, h.2 p0 = zI 3 n209 f210 ∧ zIn (p3 + (3 : Int32)) n209 ∧ (∃ n211 f212, h.2 p0 = zI 3 n211 f212 ∧ zIn (p3 + (4 : Int32)) n211 ∧ ((∃ F228, h.2 p1 = zO 9 F228) ∧ zW d m_BL_taken h.1 0 [Value.ref p1, Value.int (f206 (p3 + (1 : Int32)).toNatClampNeg), Value.int (f208 (p3 + (2 : Int32)).toNatClampNeg), Value.long ((((f210 (p3 + (3 : Int32)).toNatClampNeg).toInt64) <<< ((32 : Int32).toInt64 &&& 63)) ||| (((f212 (p3 + (4 : Int32)).toNatClampNeg).toInt64) &&& (4294967295 : Int64))), zD] [] h (fun r213 h214 => ∃ x215, r213 = some (Value.long x215) ∧ (∃ n216 f217, h214.2 p0 = zI 3 n216 f217 ∧ zIn (p3 + (1 : Int32)) n216 ∧ (∃ n218 f219, h214.2 p0 = zI 3 n218 f219 ∧ zIn (p3 + (2 : Int32)) n218 ∧ (∃ n220 f221, h214.2 p0 = zI 3 n220 f221 ∧ zIn (p3 + (3 : Int32)) n220 ∧ (∃ n222 f223, h214.2 p0 = zI 3 n222 f223 ∧ zIn (p3 + (4 : Int32)) n222 ∧ ((∃ F227, h214.2 p2 = zO 10 F227) ∧ zW d m_Mo_taken h214.1 0 [Value.ref p2, Value.int (f217 (p3 + (1 : Int32)).toNatClampNeg), Value.int (f219 (p3 + (2 : Int32)).toNatClampNeg), Value.long ((((f221 (p3 + (3 : Int32)).toNatClampNeg).toInt64) <<< ((32 : Int32).toInt64 &&& 63)) ||| (((f223 (p3 + (4 : Int32)).toNatClampNeg).toInt64) &&& (4294967295 : Int64))), zD, zD] [] h214 (fun r224 h225 => ∃ x226, r224 = some (Value.long x226) ∧ ((if (lg_cmp x215 x226) = 0 then zW (d + 1) m_Law_law e 18 [Value.ref p0, Value.ref p1, Value.ref p2, Value.int (p3 + 6)] [] h225 Q else (((0 : Int32) = 0 ∨ (0 : Int32) = 1) ∧ Q (some (Value.int (0 : Int32))) h225))))))))))))))) else if ((f4 p3.toNatClampNeg) &&& (31 : Int32)) = 14 then ((∃ F236, h.2 p1 = zO 9 F236) ∧ zW d m_BL_ok h.1 0 [Value.ref p1] [] h (fun r229 h230 => ∃ x231, r229 = some (Value.int x231) ∧ ((∃ F235, h230.2 p2 = zO 10 F235) ∧ zW d m_Mo_ok h230.1 0 [Value.ref p2] [] h230 (fun r232 h233 => ∃ x234, r232 = some (Value.int x234) ∧ ((if x231 = x234 then zW (d + 1) m_Law_law e 18 [Value.ref p0, Value.ref p1, Value.ref p2, Value.int (p3 + 6)] [] h233 Q else (((0 : Int32) = 0 ∨ (0 : Int32) = 1) ∧ Q (some (Value.int (0 : Int32))) h233))))))) else if ((f4 p3.toNatClampNeg) &&& (31 : Int32)) = 15 then (∃ n237 f238, h.2 p0 = zI 3 n237 f238 ∧ zIn (p3 + (1 : Int32)) n237 ∧ (∃ n239 f240, h.2 p0 = zI 3 n239 f240 ∧ zIn (p3 + (2 : Int32)) n239 ∧ (∃ n241 f242, h.2 p0 = zI 3 n241 f242 ∧ zIn (p3 + (3 : Int32)) n241 ∧ (∃ n243 f244, h.2 p0 = zI 3 n243 f244 ∧ zIn (p3 + (4 : Int32)) n243 ∧ ((∃ F260, h.2 p1 = zO 9 F260) ∧ zW d m_BL_there h.1 0 [Value.ref p1, Value.int (f238 (p3 + (1 : Int32)).toNatClampNeg), Value.int (f240 (p3 + (2 : Int32)).toNatClampNeg), Value.long ((((f242 (p3 + (3 : Int32)).toNatClampNeg).toInt64) <<< ((32 : Int32).toInt64 &&& 63)) ||| (((f244 (p3 + (4 : Int32)).toNatClampNeg).toInt64) &&& (4294967295 : Int64))), zD] [] h (fun r245 h246 => ∃ x247, r245 = some (Value.long x247) ∧ (∃ n248 f249, h246.2 p0 = zI 3 n248 f249 ∧ zIn (p3 + (1 : Int32)) n248 ∧ (∃ n250 f251, h246.2 p0 = zI 3 n250 f251 ∧ zIn (p3 + (2 : Int32)) n250 ∧ (∃ n252 f253, h246.2 p0 = zI 3 n252 f253 ∧ zIn (p3 + (3 : Int32)) n252 ∧ (∃ n254 f255, h246.2 p0 = zI 3 n254 f255 ∧ zIn (p3 + (4 : Int32)) n254 ∧ ((∃ F259, h246.2 p2 = zO 10 F259) ∧ zW d m_Mo_there h246.1 0 [Value.ref p2, Value.int (f249 (p3 + (1 : Int32)).toNatClampNeg), Value.int (f251 (p3 + (2 : Int32)).toNatClampNeg), Value.long ((((f253 (p3 + (3 : Int32)).toNatClampNeg).toInt64) <<< ((32 : Int32).toInt64 &&& 63)) ||| (((f255 (p3 + (4 : Int32)).toNatClampNeg).toInt64) &&& (4294967295 : Int64))), zD, zD, zD] [] h246 (fun r256 h257 => ∃ x258, r256 = some (Value.long x258) ∧ ((if (lg_cmp x247 x258) = 0 then zW (d + 1) m_Law_law e 18 [Value.ref p0, Value.ref p1, Value.ref p2, Value.int (p3 + 6)] [] h257 Q else (((0 : Int32) = 0 ∨ (0 : Int32) = 1) ∧ Q (some (Value.int (0 : Int32))) h257))))))))))))))) else if ((f4 p3.toNatClampNeg) &&& (31 : Int32)) = 16 then (∃ n261 f262, h.2 p0 = zI 3 n261 f262 ∧ zIn (p3 + (1 : Int32)) n261 ∧ (∃ n263 f264, h.2 p0 = zI 3 n263 f264 ∧ zIn (p3 + (2 : Int32)) n263 ∧ (∃ n265 f266, h.2 p0 = zI 3 n265 f266 ∧ zIn (p3 + (3 : Int32)) n265 ∧ ((∃ F280, h.2 p1 = zO 9 F280) ∧ zW d m_BL_hear h.1 0 [Value.ref p1, Value.int (f262 (p3 + (1 : Int32)).toNatClampNeg), Value.int (f264 (p3 + (2 : Int32)).toNatClampNeg), Value.int (f266 (p3 + (3 : Int32)).toNatClampNeg)] [] h (fun r267 h268 => ∃ x269, r267 = some (Value.int x269) ∧ (∃ n270 f271, h268.2 p0 = zI 3 n270 f271 ∧ zIn (p3 + (1 : Int32)) n270 ∧ (∃ n272 f273, h268.2 p0 = zI 3 n272 f273 ∧ zIn (p3 + (2 : Int32)) n272 ∧ (∃ n274 f275, h268.2 p0 = zI 3 n274 f275 ∧ zIn (p3 + (3 : Int32)) n274 ∧ ((∃ F279, h268.2 p2 = zO 10 F279) ∧ zW d m_Mo_hear h268.1 0 [Value.ref p2, Value.int (f271 (p3 + (1 : Int32)).toNatClampNeg), Value.int (f273 (p3 + (2 : Int32)).toNatClampNeg), Value.int (f275 (p3 + (3 : Int32)).toNatClampNeg), zD] [] h268 (fun r276 h277 => ∃ x278, r276 = some (Value.int x278) ∧ ((if x269 = x278 then zW (d + 1) m_Law_law e 18 [Value.ref p0, Value.ref p1, Value.ref p2, Value.int (p3 + 6)] [] h277 Q else (((0 : Int32) = 0 ∨ (0 : Int32) = 1) ∧ Q (some (Value.int (0 : Int32))) h277))))))))))))) else if ((f4 p3.toNatClampNeg) &&& (31 : Int32)) = 17 then (∃ n281 f282, h.2 p0 = zI 3 n281 f282 ∧ zIn (p3 + (1 : Int32)) n281 ∧ (∃ n283 f284, h.2 p0 = zI 3 n283 f284 ∧ zIn (p3 + (2 : Int32)) n283 ∧ ((∃ F296, h.2 p1 = zO 9 F296) ∧ zW d m_BL_lose h.1 0 [Value.ref p1, Value.int (f282 (p3 + (1 : Int32)).toNatClampNeg), Value.int (f284 (p3 + (2 : Int32)).toNatClampNeg)] [] h (fun r285 h286 => ∃ x287, r285 = some (Value.int x287) ∧ (∃ n288 f289, h286.2 p0 = zI 3 n288 f289 ∧ zIn (p3 + (1 : Int32)) n288 ∧ (∃ n290 f291, h286.2 p0 = zI 3 n290 f291 ∧ zIn (p3 + (2 : Int32)) n290 ∧ ((∃ F295, h286.2 p2 = zO 10 F295) ∧ zW d m_Mo_lose h286.1 0 [Value.ref p2, Value.int (f289 (p3 + (1 : Int32)).toNatClampNeg), Value.int (f291 (p3 + (2 : Int32)).toNatClampNeg), zD] [] h286 (fun r292 h293 => ∃ x294, r292 = some (Value.int x294) ∧ ((if x287 = x294 then zW (d + 1) m_Law_law e 18 [Value.ref p0, Value.ref p1, Value.ref p2, Value.int (p3 + 6)] [] h293 Q else (((0 : Int32) = 0 ∨ (0 : Int32) = 1) ∧ Q (some (Value.int (0 : Int32))) h293))))))))))) else if ((f4 p3.toNatClampNeg) &&& (31 : Int32)) = 18 then (∃ n297 f298, h.2 p0 = zI 3 n297 f298 ∧ zIn (p3 + (1 : Int32)) n297 ∧ (∃ n299 f300, h.2 p0 = zI 3 n299 f300 ∧ zIn (p3 + (2 : Int32)) n299 ∧ ((∃ F312, h.2 p1 = zO 9 F312) ∧ zW d m_BL_shift h.1 0 [Value.ref p1, Value.int (f298 (p3 + (1 : Int32)).toNatClampNeg), Value.int (f300 (p3 + (2 : Int32)).toNatClampNeg)] [] h (fun r301 h302 => ∃ x303, r301 = some (Value.int x303) ∧ (∃ n304 f305, h302.2 p0 = zI 3 n304 f305 ∧ zIn (p3 + (1 : Int32)) n304 ∧ (∃ n306 f307, h302.2 p0 = zI 3 n306 f307 ∧ zIn (p3 + (2 : Int32)) n306 ∧ ((∃ F311, h302.2 p2 = zO 10 F311) ∧ zW d m_Mo_shift h302.1 0 [Value.ref p2, Value.int (f305 (p3 + (1 : Int32)).toNatClampNeg), Value.int (f307 (p3 + (2 : Int32)).toNatClampNeg), zD, zD] [] h302 (fun r308 h309 => ∃ x310, r308 = some (Value.int x310) ∧ ((if x303 = x310 then zW (d + 1) m_Law_law e 18 [Value.ref p0, Value.ref p1, Value.ref p2, Value.int (p3 + 6)] [] h309 Q else (((0 : Int32) = 0 ∨ (0 : Int32) = 1) ∧ Q (some (Value.int (0 : Int32))) h309))))))))))) else if ((f4 p3.toNatClampNeg) &&& (31 : Int32)) = 19 then (∃ n313 f314, h.2 p0 = zI 3 n313 f314 ∧ zIn (p3 + (1 : Int32)) n313 ∧ (∃ n315 f316, h.2 p0 = zI 3 n315 f316 ∧ zIn (p3 + (2 : Int32)) n315 ∧ ((∃ F328, h.2 p1 = zO 9 F328) ∧ zW d m_BL_set h.1 0 [Value.ref p1, Value.int (f314 (p3 + (1 : Int32)).toNatClampNeg), Value.int (f316 (p3 + (2 : Int32)).toNatClampNeg), zD] [] h (fun r317 h318 => ∃ x319, r317 = some (Value.int x319) ∧ (∃ n320 f321, h318.2 p0 = zI 3 n320 f321 ∧ zIn (p3 + (1 : Int32)) n320 ∧ (∃ n322 f323, h318.2 p0 = zI 3 n322 f323 ∧ zIn (p3 + (2 : Int32)) n322 ∧ ((∃ F327, h318.2 p2 = zO 10 F327) ∧ zW d m_Mo_set h318.1 0 [Value.ref p2, Value.int (f321 (p3 + (1 : Int32)).toNatClampNeg), Value.int (f323 (p3 + (2 : Int32)).toNatClampNeg), zD] [] h318 (fun r324 h325 => ∃ x326, r324 = some (Value.int x326) ∧ ((if x319 = x326 then zW (d + 1) m_Law_law e 18 [Value.ref p0, Value.ref p1, Value.ref p2, Value.int (p3 + 6)] [] h325 Q else (((0 : Int32) = 0 ∨ (0 : Int32) = 1) ∧ Q (some (Value.int (0 : Int32))) h325))))))))))) else if ((f4 p3.toNatClampNeg) &&& (31 : Int32)) = 20 then (∃ n329 f330, h.2 p0 = zI 3 n329 f330 ∧ zIn (p3 + (1 : Int32)) n329 ∧ (∃ n331 f332, h.2 p0 = zI 3 n331 f332 ∧ zIn (p3 + (2 : Int32)) n331 ∧ ((∃ F344, h.2 p1 = zO 9 F344) ∧ zW d m_BL_draw h.1 0 [Value.ref p1, Value.int (f330 (p3 + (1 : Int32)).toNatClampNeg), Value.int (f332 (p3 + (2 : Int32)).toNatClampNeg)] [] h (fun r333 h334 => ∃ x335, r333 = some (Value.int x335) ∧ (∃ n336 f337, h334.2 p0 = zI 3 n336 f337 ∧ zIn (p3 + (1 : Int32)) n336 ∧ (∃ n338 f339, h334.2 p0 = zI 3 n338 f339 ∧ zIn (p3 + (2 : Int32)) n338 ∧ ((∃ F343, h334.2 p2 = zO 10 F343) ∧ zW d m_Mo_draw h334.1 0 [Value.ref p2, Value.int (f337 (p3 + (1 : Int32)).toNatClampNeg), Value.int (f339 (p3 + (2 : Int32)).toNatClampNeg), zD, zD, zD, zD, zD] [] h334 (fun r340 h341 => ∃ x342, r340 = some (Value.int x342) ∧ ((if x335 = x342 then zW (d + 1) m_Law_law e 18 [Value.ref p0, Value.ref p1, Value.ref p2, Value.int (p3 + 6)] [] h341 Q else (((0 : Int32) = 0 ∨ (0 : Int32) = 1) ∧ Q (some (Value.int (0 : Int32))) h341))))))))))) else if ((f4 p3.toNatClampNeg) &&& (31 : Int32)) = 21 then (∃ n345 f346, h.2 p0 = zI 3 n345 f346 ∧ zIn (p3 + (1 : Int32)) n345 ∧ ((∃ F356, h.2 p1 = zO 9 F356) ∧ zW d m_BL_keep h.1 0 [Value.ref p1, Value.int (f346 (p3 + (1 : Int32)).toNatClampNeg), zD] [] h (fun r347 h348 => ∃ x349, r347 = some (Value.int x349) ∧ (∃ n350 f351, h348.2 p0 = zI 3 n350 f351 ∧ zIn (p3 + (1 : Int32)) n350 ∧ ((∃ F355, h348.2 p2 = zO 10 F355) ∧ zW d m_Mo_keep h348.1 0 [Value.ref p2, Value.int (f351 (p3 + (1 : Int32)).toNatClampNeg), zD, zD] [] h348 (fun r352 h353 => ∃ x354, r352 = some (Value.int x354) ∧ ((if x349 = x354 then zW (d + 1) m_Law_law e 18 [Value.ref p0, Value.ref p1, Value.ref p2, Value.int (p3 + 6)] [] h353 Q else (((0 : Int32) = 0 ∨ (0 : Int32) = 1) ∧ Q (some (Value.int (0 : Int32))) h353))))))))) else if ((f4 p3.toNatClampNeg) &&& (31 : Int32)) = 22 then (∃ n357 f358, h.2 p0 = zI 3 n357 f358 ∧ zIn (p3 + (1 : Int32)) n357 ∧ ((∃ F368, h.2 p1 = zO 9 F368) ∧ zW d m_BL_back h.1 0 [Value.ref p1, Value.int (f358 (p3 + (1 : Int32)).toNatClampNeg)] [] h (fun r359 h360 => ∃ x361, r359 = some (Value.int x361) ∧ (∃ n362 f363, h360.2 p0 = zI 3 n362 f363 ∧ zIn (p3 + (1 : Int32)) n362 ∧ ((∃ F367, h360.2 p2 = zO 10 F367) ∧ zW d m_Mo_back h360.1 0 [Value.ref p2, Value.int (f363 (p3 + (1 : Int32)).toNatClampNeg), zD] [] h360 (fun r364 h365 => ∃ x366, r364 = some (Value.int x366) ∧ ((if x361 = x366 then zW (d + 1) m_Law_law e 18 [Value.ref p0, Value.ref p1, Value.ref p2, Value.int (p3 + 6)] [] h365 Q else (((0 : Int32) = 0 ∨ (0 : Int32) = 1) ∧ Q (some (Value.int (0 : Int32))) h365))))))))) else if ((f4 p3.toNatClampNeg) &&& (31 : Int32)) = 23 then (∃ n369 f370, h.2 p0 = zI 3 n369 f370 ∧ zIn (p3 + (1 : Int32)) n369 ∧ (∃ n371 f372, h.2 p0 = zI 3 n371 f372 ∧ zIn (p3 + (2 : Int32)) n371 ∧ (∃ n373 f374, h.2 p0 = zI 3 n373 f374 ∧ zIn (p3 + (3 : Int32)) n373 ∧ ((∃ F388, h.2 p1 = zO 9 F388) ∧ zW d m_BL_sheet h.1 0 [Value.ref p1, Value.int (f370 (p3 + (1 : Int32)).toNatClampNeg), Value.int (f372 (p3 + (2 : Int32)).toNatClampNeg), Value.int (f374 (p3 + (3 : Int32)).toNatClampNeg)] [] h (fun r375 h376 => ∃ x377, r375 = some (Value.int x377) ∧ (∃ n378 f379, h376.2 p0 = zI 3 n378 f379 ∧ zIn (p3 + (1 : Int32)) n378 ∧ (∃ n380 f381, h376.2 p0 = zI 3 n380 f381 ∧ zIn (p3 + (2 : Int32)) n380 ∧ (∃ n382 f383, h376.2 p0 = zI 3 n382 f383 ∧ zIn (p3 + (3 : Int32)) n382 ∧ ((∃ F387, h376.2 p2 = zO 10 F387) ∧ zW d m_Mo_sheet h376.1 0 [Value.ref p2, Value.int (f379 (p3 + (1 : Int32)).toNatClampNeg), Value.int (f381 (p3 + (2 : Int32)).toNatClampNeg), Value.int (f383 (p3 + (3 : Int32)).toNatClampNeg), zD] [] h376 (fun r384 h385 => ∃ x386, r384 = some (Value.int x386) ∧ ((if x377 = x386 then zW (d + 1) m_Law_law e 18 [Value.ref p0, Value.ref p1, Value.ref p2, Value.int (p3 + 6)] [] h385 Q else (((0 : Int32) = 0 ∨ (0 : Int32) = 1) ∧ Q (some (Value.int (0 : Int32))) h385))))))))))))) else if ((f4 p3.toNatClampNeg) &&& (31 : Int32)) = 24 then (∃ n389 f390, h.2 p0 = zI 3 n389 f390 ∧ zIn (p3 + (1 : Int32)) n389 ∧ (∃ n391 f392, h.2 p0 = zI 3 n391 f392 ∧ zIn (p3 + (2 : Int32)) n391 ∧ (∃ n393 f394, h.2 p0 = zI 3 n393 f394 ∧ zIn (p3 + (3 : Int32)) n393 ∧ ((∃ F408, h.2 p1 = zO 9 F408) ∧ zW d m_BL_lay h.1 0 [Value.ref p1, Value.int (f390 (p3 + (1 : Int32)).toNatClampNeg), Value.int (f392 (p3 + (2 : Int32)).toNatClampNeg), Value.int (f394 (p3 + (3 : Int32)).toNatClampNeg), zD] [] h (fun r395 h396 => ∃ x397, r395 = some (Value.int x397) ∧ (∃ n398 f399, h396.2 p0 = zI 3 n398 f399 ∧ zIn (p3 + (1 : Int32)) n398 ∧ (∃ n400 f401, h396.2 p0 = zI 3 n400 f401 ∧ zIn (p3 + (2 : Int32)) n400 ∧ (∃ n402 f403, h396.2 p0 = zI 3 n402 f403 ∧ zIn (p3 + (3 : Int32)) n402 ∧ ((∃ F407, h396.2 p2 = zO 10 F407) ∧ zW d m_Mo_lay h396.1 0 [Value.ref p2, Value.int (f399 (p3 + (1 : Int32)).toNatClampNeg), Value.int (f401 (p3 + (2 : Int32)).toNatClampNeg), Value.int (f403 (p3 + (3 : Int32)).toNatClampNeg)] [] h396 (fun r404 h405 => ∃ x406, r404 = some (Value.int x406) ∧ ((if x397 = x406 then zW (d + 1) m_Law_law e 18 [Value.ref p0, Value.ref p1, Value.ref p2, Value.int (p3 + 6)] [] h405 Q else (((0 : Int32) = 0 ∨ (0 : Int32) = 1) ∧ Q (some (Value.int (0 : Int32))) h405))))))))))))) else if ((f4 p3.toNatClampNeg) &&& (31 : Int32)) = 25 then (∃ n409 f410, h.2 p0 = zI 3 n409 f410 ∧ zIn (p3 + (1 : Int32)) n409 ∧ (∃ n411 f412, h.2 p0 = zI 3 n411 f412 ∧ zIn (p3 + (2 : Int32)) n411 ∧ (∃ n413 f414, h.2 p0 = zI 3 n413 f414 ∧ zIn (p3 + (3 : Int32)) n413 ∧ (∃ n415 f416, h.2 p0 = zI 3 n415 f416 ∧ zIn (p3 + (4 : Int32)) n415 ∧ (∃ n417 f418, h.2 p0 = zI 3 n417 f418 ∧ zIn (p3 + (5 : Int32)) n417 ∧ ((∃ F436, h.2 p1 = zO 9 F436) ∧ zW d m_BL_read h.1 0 [Value.ref p1, Value.int (f410 (p3 + (1 : Int32)).toNatClampNeg), Value.int (f412 (p3 + (2 : Int32)).toNatClampNeg), Value.int (f414 (p3 + (3 : Int32)).toNatClampNeg), Value.int (f416 (p3 + (4 : Int32)).toNatClampNeg), Value.int (f418 (p3 + (5 : Int32)).toNatClampNeg), zD, zD, zD] [] h (fun r419 h420 => ∃ x421, r419 = some (Value.int x421) ∧ (∃ n422 f423, h420.2 p0 = zI 3 n422 f423 ∧ zIn (p3 + (1 : Int32)) n422 ∧ (∃ n424 f425, h420.2 p0 = zI 3 n424 f425 ∧ zIn (p3 + (2 : Int32)) n424 ∧ (∃ n426 f427, h420.2 p0 = zI 3 n426 f427 ∧ zIn (p3 + (3 : Int32)) n426 ∧ (∃ n428 f429, h420.2 p0 = zI 3 n428 f429 ∧ zIn (p3 + (4 : Int32)) n428 ∧ (∃ n430 f431, h420.2 p0 = zI 3 n430 f431 ∧ zIn (p3 + (5 : Int32)) n430 ∧ ((∃ F435, h420.2 p2 = zO 10 F435) ∧ zW d m_Mo_read h420.1 0 [Value.ref p2, Value.int (f423 (p3 + (1 : Int32)).toNatClampNeg), Value.int (f425 (p3 + (2 : Int32)).toNatClampNeg), Value.int (f427 (p3 + (3 : Int32)).toNatClampNeg), Value.int (f429 (p3 + (4 : Int32)).toNatClampNeg), Value.int (f431 (p3 + (5 : Int32)).toNatClampNeg), zD, zD, zD, zD] [] h420 (fun r432 h433 => ∃ x434, r432 = some (Value.int x434) ∧ ((if x421 = x434 then zW (d + 1) m_Law_law e 18 [Value.ref p0, Value.ref p1, Value.ref p2, Value.int (p3 + 6)] [] h433 Q else (((0 : Int32) = 0 ∨ (0 : Int32) = 1) ∧ Q (some (Value.int (0 : Int32))) h433))))))))))))))))) else if ((f4 p3.toNatClampNeg) &&& (31 : Int32)) = 26 then (∃ n437 f438, h.2 p0 = zI 3 n437 f438 ∧ zIn (p3 + (1 : Int32)) n437 ∧ ((∃ F448, h.2 p1 = zO 9 F448) ∧ zW d m_BL_count h.1 0 [Value.ref p1, Value.int (f438 (p3 + (1 : Int32)).toNatClampNeg)] [] h (fun r439 h440 => ∃ x441, r439 = some (Value.int x441) ∧ (∃ n442 f443, h440.2 p0 = zI 3 n442 f443 ∧ zIn (p3 + (1 : Int32)) n442 ∧ ((∃ F447, h440.2 p2 = zO 10 F447) ∧ zW d m_Mo_count h440.1 0 [Value.ref p2, Value.int (f443 (p3 + (1 : Int32)).toNatClampNeg)] [] h440 (fun r444 h445 => ∃ x446, r444 = some (Value.int x446) ∧ ((if x441 = x446 then zW (d + 1) m_Law_law e 18 [Value.ref p0, Value.ref p1, Value.ref p2, Value.int (p3 + 6)] [] h445 Q else (((0 : Int32) = 0 ∨ (0 : Int32) = 1) ∧ Q (some (Value.int (0 : Int32))) h445))))))))) else (zW (d + 1) m_Law_law e 18 [Value.ref p0, Value.ref p1, Value.ref p2, Value.int (p3 + 6)] [] h Q)))))) : zW (d + 1) m_Law_law e 18 [Value.ref p0, Value.ref p1, Value.ref p2, Value.int p3] [] h Q := zWg_run (C := zc_Law_law) (B := (1000, 20000)) rfl rfl [18] 74 18 _ _ _ K
end
section
/-! pure: small things -/
theorem zP_same (h : zH) (a : Nat) (c : zCell) : (zP h a c).2 a = c := by simp [zP, zU]
theorem zP_ne (h : zH) {a b : Nat} (c : zCell) (hb : b ≠ a) : (zP h a c).2 b = h.2 b := by simp [zP, zU, hb]
theorem zP_1 (h : zH) (a : Nat) (c : zCell) : (zP h a c).1 = h.1 := rfl
theorem zP_zP (h : zH) (a : Nat) (c c' : zCell) : zP (zP h a c) a c' = zP h a c' := by
  unfold zP
  congr 1
  funext q
  unfold zU
  by_cases e : q = a
  · rw [if_pos e, if_pos e]
  · rw [if_neg e, if_neg e]
    show (if q = a then c else h.2 q) = h.2 q
    rw [if_neg e]
theorem zP_self {h : zH} {a : Nat} {c : zCell} (hc : h.2 a = c) : zP h a c = h := by
  unfold zP
  refine Prod.ext rfl ?_
  funext q
  show zU h.2 a c q = h.2 q
  unfold zU
  split
  · rename_i e; rw [e]; exact hc.symm
  · rfl
theorem zU_same {α : Type} (f : Nat → α) (k : Nat) (x : α) : zU f k x k = x := by simp [zU]
theorem zU_ne {α : Type} (f : Nat → α) {k j : Nat} (x : α) (h : j ≠ k) : zU f k x j = f j := by simp [zU, h]
theorem ifT {c : Prop} [Decidable c] {A B : Prop} (h : c) (k : A) : if c then A else B := by rw [if_pos h]; exact k
theorem ifF {c : Prop} [Decidable c] {A B : Prop} (h : ¬ c) (k : B) : if c then A else B := by rw [if_neg h]; exact k
theorem ifB {c : Prop} [Decidable c] {A B : Prop} (h : c → A) (k : ¬ c → B) : if c then A else B := by
  by_cases q : c
  · rw [if_pos q]; exact h q
  · rw [if_neg q]; exact k q
theorem zIn_nI {i n : Nat} (h : i < n) (hn : n < 2 ^ 31) : zIn (nI i) n := ⟨nI_pos (by omega), by rw [nI_clamp (by omega)]; exact h⟩
theorem ix_nI (r b : Nat) : nI r * 16 + nI b = nI (16 * r + b) := by
  rw [show (16 : Int32) = nI 16 from rfl, pk_mul, nI_add, Nat.mul_comm]
theorem zm4 {x : Int32} (h : 0 ≤ x) : ¬ x = -4 := by rintro rfl; exact absurd h (by decide)
/-- the two heaps are alike but for some cells -/
def zFr (A : Nat → Prop) (h h' : zH) : Prop := ∀ a, ¬ A a → h'.2 a = h.2 a
theorem zFr.rf {A : Nat → Prop} {h : zH} : zFr A h h := fun _ _ => rfl
theorem zFr.trans {A : Nat → Prop} {h h1 h2 : zH} (x : zFr A h h1) (y : zFr A h1 h2) : zFr A h h2 := fun a ha => (y a ha).trans (x a ha)
theorem zFr.put {A : Nat → Prop} {h : zH} {a : Nat} {c : zCell} (ha : A a) : zFr A h (zP h a c) := fun b hb => zP_ne h c (fun e => hb (e ▸ ha))
theorem zFr.sub {A B : Nat → Prop} {h h' : zH} (x : zFr A h h') (hs : ∀ a, A a → B a) : zFr B h h' := fun a ha => x a (fun q => ha (hs a q))
/-- a book at a, its stamps behind it -/
def bkA (h : zH) (a : Nat) (n l s : Int32) (S : Nat → Int32) : Prop := (∃ F, h.2 a = zO 0 F ∧ F 0 = .int n ∧ F 1 = .int l ∧ F 2 = .int s ∧ F 3 = .ref (a + 1)) ∧ ∃ S0, h.2 (a + 1) = zI 0 112 S0 ∧ ∀ k, k < 112 → S0 k = S k
theorem bkA.fr {A : Nat → Prop} {h h' : zH} {a : Nat} {n l s : Int32} {S : Nat → Int32} (b : bkA h a n l s S) (f : zFr A h h') (h1 : ¬ A a) (h2 : ¬ A (a + 1)) : bkA h' a n l s S := by
  obtain ⟨⟨F, hF, q⟩, S0, hS, hS0⟩ := b
  exact ⟨⟨F, by rw [f a h1]; exact hF, q⟩, S0, by rw [f _ h2]; exact hS, hS0⟩
theorem bkA.to {h : zH} {a : Nat} {n l s : Int32} {S S' : Nat → Int32} (b : bkA h a n l s S) (hS : ∀ k, k < 112 → S k = S' k) : bkA h a n l s S' := by
  obtain ⟨q, S0, h1, h2⟩ := b
  exact ⟨q, S0, h1, fun k hk => (h2 k hk).trans (hS k hk)⟩
/-- how many a clock heard, of the first k -/
def cnH (S : Nat → Int32) (r : Nat) : Nat → Nat
  | 0 => 0
  | k + 1 => cnH S r k + (if S (16 * r + k) = -4 then 0 else 1)
theorem cnH_le (S : Nat → Int32) (r : Nat) : ∀ k, cnH S r k ≤ k
  | 0 => Nat.le_refl _
  | k + 1 => by
    have := cnH_le S r k
    unfold cnH
    split <;> omega
def cnA (S : Nat → Int32) : Nat → Nat
  | 0 => 0
  | r + 1 => cnA S r + cnH S r 16
theorem cnA_le (S : Nat → Int32) : ∀ r, cnA S r ≤ 16 * r
  | 0 => Nat.le_refl _
  | r + 1 => by
    have := cnA_le S r
    have := cnH_le S r 16
    unfold cnA
    omega
section C
variable {d : Nat} {e : Nat × Nat} {h : zH} {Q : zQ} {a : Nat} {n l s : Int32} {S : Nat → Int32}
theorem cB_hasClock {r : Int32} (hb : bkA h a n l s S) (K : Q (some (.int (if ¬ r < 0 ∧ r < n then 1 else 0))) h) : zW (d + 1) m_Book_hasClock e 0 [.ref a, .int r] [] h Q := by
  obtain ⟨⟨F, hF, f0, f1, f2, f3⟩, S0, hS, hS0⟩ := hb
  refine b_Book_hasClock_0 ?_
  simp only [hF, f0, Sum.inl.injEq, Prod.mk.injEq, true_and, exists_eq_left', Value.int.injEq]
  by_cases c1 : r < 0
  · rw [if_pos c1]; rw [if_neg (fun q => q.1 c1)] at K; exact ⟨by decide, K⟩
  · rw [if_neg c1]
    by_cases c2 : r < n
    · rw [if_neg (Int32.not_le.mpr c2)]; rw [if_pos ⟨c1, c2⟩] at K; exact ⟨by decide, K⟩
    · rw [if_pos (Int32.not_lt.mp c2)]; rw [if_neg (fun q => c2 q.2)] at K; exact ⟨by decide, K⟩
theorem cB_stampAt {r b : Nat} (hb : bkA h a n l s S) (hr : r < 7) (hbb : b < 16) (K : Q (some (.int (S (16 * r + b)))) h) : zW (d + 1) m_Book_stampAt e 0 [.ref a, .int (nI b), .int (nI r)] [] h Q := by
  obtain ⟨⟨F, hF, f0, f1, f2, f3⟩, S0, hS, hS0⟩ := hb
  refine b_Book_stampAt_0 ?_
  simp only [hF, f3, hS, Sum.inl.injEq, Sum.inr.injEq, Prod.mk.injEq, true_and, exists_eq_left', Value.ref.injEq]
  rw [ix_nI]
  refine ⟨112, S0, ⟨rfl, rfl⟩, zIn_nI (by omega) (by decide), ?_⟩
  rw [nI_clamp (by omega), hS0 _ (by omega)]
  exact K
theorem cB_putStamp {r b : Nat} {t : Int32} (hb : bkA h a n l s S) (hr : r < 7) (hbb : b < 16) (K : ∀ h', bkA h' a n l s (zU S (16 * r + b) t) → zFr (fun q => q = a + 1) h h' → Q none h') : zW (d + 1) m_Book_putStamp e 0 [.ref a, .int (nI b), .int (nI r), .int t] [] h Q := by
  obtain ⟨⟨F, hF, f0, f1, f2, f3⟩, S0, hS, hS0⟩ := hb
  refine b_Book_putStamp_0 ?_
  simp only [hF, f3, hS, Sum.inl.injEq, Sum.inr.injEq, Prod.mk.injEq, true_and, exists_eq_left', Value.ref.injEq]
  rw [ix_nI]
  refine ⟨112, S0, ⟨rfl, rfl⟩, zIn_nI (by omega) (by decide), ?_⟩
  rw [nI_clamp (by omega)]
  rintro h5 rfl
  refine K _ ⟨⟨F, by rw [zP_ne _ _ (by omega)]; exact hF, f0, f1, f2, f3⟩, _, zP_same _ _ _, fun k hk => ?_⟩ (zFr.put rfl)
  unfold zU
  split
  · rfl
  · exact hS0 k hk
theorem cB_stampsOf {r : Nat} (hb : bkA h a n l s S) (hr : r < 7) (K : Q (some (.int (nI (cnH S r 16)))) h) : zW (d + 2) m_Book_stampsOf e 0 [.ref a, .int (nI r), zD, zD] [] h Q := by
  refine b_Book_stampsOf_0 ?_
  have loop : ∀ k b, b + k = 16 → zW (d + 2) m_Book_stampsOf e 4 [.ref a, .int (nI r), .int (nI (cnH S r b)), .int (nI b)] [] h Q := by
    intro k
    induction k with
    | zero =>
      intro b hk
      have : b = 16 := by omega
      subst this
      refine b_Book_stampsOf_4 ?_
      exact ifT (show nI 16 ≤ nI 16 from Int32.le_refl _) K
    | succ k ih =>
      intro b hk
      refine b_Book_stampsOf_4 ?_
      refine ifF (show ¬ nI 16 ≤ nI b from nI_ge (by omega) (by decide)) ?_
      refine ⟨hb.1.imp fun _ q => q.1, cB_stampAt hb hr (by omega) ⟨_, rfl, ?_⟩⟩
      have := ih (b + 1) (by omega)
      unfold cnH at this
      rw [nI_1]
      split
      · rename_i c; rw [if_pos c] at this; exact this
      · rename_i c; rw [if_neg c] at this; rw [nI_1]; exact this
  exact loop 16 0 rfl
theorem cB_allStamps {N : Nat} (hb : bkA h a (nI N) l s S) (hN : N ≤ 7) (K : Q (some (.int (nI (cnA S N)))) h) : zW (d + 3) m_Book_allStamps e 0 [.ref a, zD, zD] [] h Q := by
  refine b_Book_allStamps_0 ?_
  have loop : ∀ k r, r + k = N → zW (d + 3) m_Book_allStamps e 4 [.ref a, .int (nI (cnA S r)), .int (nI r)] [] h Q := by
    intro k
    induction k with
    | zero =>
      intro r hk
      have : r = N := by omega
      subst this
      refine b_Book_allStamps_4 ?_
      obtain ⟨⟨F, hF, f0, f1, f2, f3⟩, S0, hS, hS0⟩ := hb
      simp only [hF, f0, Sum.inl.injEq, Prod.mk.injEq, true_and, exists_eq_left', Value.int.injEq]
      rw [if_pos (Int32.le_refl _)]
      exact K
    | succ k ih =>
      intro r hk
      refine b_Book_allStamps_4 ?_
      obtain ⟨⟨F, hF, f0, f1, f2, f3⟩, S0, hS, hS0⟩ := id hb
      simp only [hF, f0, Sum.inl.injEq, Prod.mk.injEq, true_and, exists_eq_left', Value.int.injEq]
      rw [if_neg (nI_ge (by omega) (by omega))]
      refine ⟨⟨_, rfl⟩, cB_stampsOf hb (by omega) ⟨_, rfl, ?_⟩⟩
      have := ih (r + 1) (by omega)
      unfold cnA at this
      rw [nI_add, nI_1]
      exact this
  exact loop N 0 (by omega)
theorem cJ_fillI {p n : Nat} {v : Int32} {f : Nat → Int32} (hp : h.2 p = zI 0 n f) (hn : n < 2 ^ 31) (K : ∀ f', (∀ j, j < n → f' j = v) → Q none (zP h p (zI 0 n f'))) : zW (d + 1) m_JArr_fillI e 0 [.ref p, .int v, zD, zD] [] h Q := by
  refine b_JArr_fillI_0 ⟨n, f, hp, ?_⟩
  have loop : ∀ k i (g : Nat → Int32), i + k = n → (∀ j, j < i → g j = v) → zW (d + 1) m_JArr_fillI e 5 [.ref p, .int v, .int (nI i), .int (nI n)] [] (zP h p (zI 0 n g)) Q := by
    intro k
    induction k with
    | zero =>
      intro i g hk hg
      have : i = n := by omega
      subst this
      exact b_JArr_fillI_5 (ifT (Int32.le_refl _) (K g hg))
    | succ k ih =>
      intro i g hk hg
      refine b_JArr_fillI_5 (ifF (nI_ge (by omega) (by omega)) ?_)
      refine ⟨n, g, zP_same _ _ _, zIn_nI (by omega) (by omega), ?_⟩
      rintro h3 rfl
      rw [nI_clamp (by omega), zP_zP, nI_1]
      refine ih (i + 1) _ (by omega) (fun j hj => ?_)
      unfold zU
      split
      · rfl
      · exact hg j (by omega)
  have := loop n 0 f (by omega) (fun j hj => by omega)
  rw [zP_self hp] at this
  exact this
theorem cJ_fillJ {p n : Nat} {v : Int64} {f : Nat → Int64} (hp : h.2 p = zL n f) (hn : n < 2 ^ 31) (K : ∀ f', (∀ j, j < n → f' j = v) → Q none (zP h p (zL n f'))) : zW (d + 1) m_JArr_fillJ e 0 [.ref p, .long v, zD, zD, zD] [] h Q := by
  refine b_JArr_fillJ_0 ⟨n, f, hp, ?_⟩
  have loop : ∀ k i (g : Nat → Int64), i + k = n → (∀ j, j < i → g j = v) → zW (d + 1) m_JArr_fillJ e 6 [.ref p, .long v, zD, .int (nI i), .int (nI n)] [] (zP h p (zL n g)) Q := by
    intro k
    induction k with
    | zero =>
      intro i g hk hg
      have : i = n := by omega
      subst this
      exact b_JArr_fillJ_6 (ifT (Int32.le_refl _) (K g hg))
    | succ k ih =>
      intro i g hk hg
      refine b_JArr_fillJ_6 (ifF (nI_ge (by omega) (by omega)) ?_)
      refine ⟨n, g, zP_same _ _ _, zIn_nI (by omega) (by omega), ?_⟩
      rintro h3 rfl
      rw [nI_clamp (by omega), zP_zP, nI_1]
      refine ih (i + 1) _ (by omega) (fun j hj => ?_)
      unfold zU
      split
      · rfl
      · exact hg j (by omega)
  have := loop n 0 f (by omega) (fun j hj => by omega)
  rw [zP_self hp] at this
  exact this
theorem cB_startWith {N : Int32} (hb : bkA h a n l s S) (K : ∀ h', bkA h' a N l s (fun _ => -4) → zFr (fun q => q = a ∨ q = a + 1) h h' → Q none h') : zW (d + 2) m_Book_startWith e 0 [.ref a, .int N] [] h Q := by
  obtain ⟨⟨F, hF, f0, f1, f2, f3⟩, S0, hS, hS0⟩ := hb
  refine b_Book_startWith_0 ⟨F, hF, ?_⟩
  rintro h2 rfl
  refine ⟨_, zP_same _ _ _, a + 1, (zU_ne _ _ (by decide)).trans f3, ?_⟩
  refine cJ_fillI (f := S0) (n := 112) (by rw [zP_ne _ _ (by omega)]; exact hS) (by decide) (fun f' hf => ⟨rfl, ?_⟩)
  refine K _ ⟨⟨_, (zP_ne _ _ (by omega)).trans (zP_same _ _ _), zU_same _ _ _, (zU_ne _ _ (by decide)).trans f1, (zU_ne _ _ (by decide)).trans f2, (zU_ne _ _ (by decide)).trans f3⟩, f', zP_same _ _ _, hf⟩ ?_
  exact (zFr.put (Or.inl rfl)).trans (zFr.put (Or.inr rfl))
theorem cB_copyFrom {a2 : Nat} {n2 l2 s2 : Int32} {S2 : Nat → Int32} (hb : bkA h a n l s S) (hb2 : bkA h a2 n2 l2 s2 S2) (hne : a2 ≠ a ∧ a2 ≠ a + 1 ∧ a2 + 1 ≠ a) (K : ∀ h', bkA h' a n2 l2 s2 S2 → zFr (fun q => q = a ∨ q = a + 1) h h' → Q none h') : zW (d + 1) m_Book_copyFrom e 0 [.ref a, .ref a2] [] h Q := by
  obtain ⟨⟨F, hF, f0, f1, f2, f3⟩, S0, hS, hS0⟩ := hb
  obtain ⟨⟨G, hG, g0, g1, g2, g3⟩, T0, hT, hT0⟩ := hb2
  obtain ⟨q1, q2, q3⟩ := hne
  refine b_Book_copyFrom_0 ⟨G, hG, _, g0, F, hF, ?_⟩
  rintro h4 rfl
  refine ⟨G, (zP_ne _ _ q1).trans hG, _, g1, _, zP_same _ _ _, ?_⟩
  rintro h8 rfl
  rw [zP_zP]
  refine ⟨G, (zP_ne _ _ q1).trans hG, _, g2, _, zP_same _ _ _, ?_⟩
  rintro h12 rfl
  rw [zP_zP]
  have e3 : ∀ x y z : Value, zU (zU (zU F 0 x) 1 y) 2 z 3 = F 3 := fun x y z => rfl
  have hS' : ∀ c, (zP h a c).2 (a + 1) = zI 0 112 S0 := fun c => (zP_ne h c (by omega)).trans hS
  have hT' : ∀ c, (zP h a c).2 (a2 + 1) = zI 0 112 T0 := fun c => (zP_ne h c q3).trans hT
  refine ⟨G, (zP_ne _ _ q1).trans hG, _, g3, _, zP_same _ _ _, _, (e3 _ _ _).trans f3, _, zP_same _ _ _, _, (e3 _ _ _).trans f3, 112, S0, hS' _, fun q => q1 (Nat.succ.inj q), 112, T0, 112, S0, hT' _, hS' _, by decide, ?_⟩
  rintro h25 rfl
  refine K _ ⟨⟨_, (zP_ne _ _ (by omega)).trans (zP_same _ _ _), rfl, rfl, rfl, f3⟩, _, zP_same _ _ _, fun k hk => ?_⟩ ((zFr.put (Or.inl rfl)).trans (zFr.put (Or.inr rfl)))
  have : zCpy T0 S0 0 0 112 k = T0 k := by
    unfold zCpy
    rw [if_pos (by omega)]
    congr 1
    omega
  exact this.trans (hT0 k hk)
end C
/-- some clock of the first n heard the beacon -/
def hdB (S : Nat → Int32) (b : Nat) : Nat → Bool
  | 0 => false
  | r + 1 => hdB S b r || decide (S (16 * r + b) ≠ -4)
theorem hdB_true {S : Nat → Int32} {b : Nat} : ∀ {n r : Nat}, r < n → S (16 * r + b) ≠ -4 → hdB S b n = true
  | n + 1, r, hr, hS => by
    unfold hdB
    by_cases e : r = n
    · subst e; simp [hS]
    · rw [hdB_true (by omega) hS]; rfl
/-- how many of the first k beacons nobody heard -/
def cnU (S : Nat → Int32) (n : Nat) : Nat → Nat
  | 0 => 0
  | b + 1 => cnU S n b + (if hdB S b n = true then 0 else 1)
theorem cnU_le (S : Nat → Int32) (n : Nat) : ∀ k, cnU S n k ≤ k
  | 0 => Nat.le_refl _
  | k + 1 => by
    have := cnU_le S n k
    unfold cnU
    split <;> omega
/-- a stamp may be moved by c -/
def mvO (x c : Int32) : Prop := x = -4 ∨ (¬ x + c < 0 ∧ x + c ≤ 9999)
def mvA (S : Nat → Int32) (r : Nat) (c : Int32) (k : Nat) : Prop := ∀ b, b < k → mvO (S (16 * r + b)) c
/-- the stamps of a clock, the first k of them moved -/
def mvS (S : Nat → Int32) (r : Nat) (c : Int32) (k : Nat) : Nat → Int32 := fun j => if 16 * r ≤ j ∧ j < 16 * r + k ∧ S j ≠ -4 then S j + c else S j
section C
variable {d : Nat} {e : Nat × Nat} {h : zH} {Q : zQ} {a : Nat} {n l s : Int32} {S : Nat → Int32}
theorem cB_isHeard {N b : Nat} (hb : bkA h a (nI N) l s S) (hN : N ≤ 7) (hbb : b < 16) (K : Q (some (.int (if hdB S b N = true then 1 else 0))) h) : zW (d + 2) m_Book_isHeard e 0 [.ref a, .int (nI b), zD] [] h Q := by
  refine b_Book_isHeard_0 ?_
  have loop : ∀ k r, r + k = N → hdB S b r = false → zW (d + 2) m_Book_isHeard e 2 [.ref a, .int (nI b), .int (nI r)] [] h Q := by
    intro k
    induction k with
    | zero =>
      intro r hk hr
      have : r = N := by omega
      subst this
      obtain ⟨⟨F, hF, f0, -⟩, -⟩ := id hb
      refine b_Book_isHeard_2 ⟨F, hF, _, f0, ifT (Int32.le_refl _) ⟨by decide, ?_⟩⟩
      rw [if_neg (by rw [hr]; decide)] at K
      exact K
    | succ k ih =>
      intro r hk hr
      obtain ⟨⟨F, hF, f0, -⟩, -⟩ := id hb
      refine b_Book_isHeard_2 ⟨F, hF, _, f0, ifF (nI_ge (by omega) (by omega)) ⟨⟨F, hF⟩, cB_stampAt hb (by omega) hbb ⟨_, rfl, ifB (fun c => ?_) (fun c => ⟨by decide, ?_⟩)⟩⟩⟩
      · rw [nI_1]
        refine ih (r + 1) (by omega) ?_
        unfold hdB
        rw [hr, decide_eq_false (fun q => q c)]
        rfl
      · rw [if_pos (hdB_true (by omega) c)] at K
        exact K
  exact loop N 0 (by omega) rfl
theorem cB_unheard {N : Nat} (hb : bkA h a (nI N) l s S) (hN : N ≤ 7) (K : Q (some (.int (nI (cnU S N 16)))) h) : zW (d + 3) m_Book_unheardBeacons e 0 [.ref a, zD, zD] [] h Q := by
  refine b_Book_unheardBeacons_0 ?_
  have loop : ∀ k b, b + k = 16 → zW (d + 3) m_Book_unheardBeacons e 4 [.ref a, .int (nI (cnU S N b)), .int (nI b)] [] h Q := by
    intro k
    induction k with
    | zero =>
      intro b hk
      have : b = 16 := by omega
      subst this
      exact b_Book_unheardBeacons_4 (ifT (show nI 16 ≤ nI 16 from Int32.le_refl _) K)
    | succ k ih =>
      intro b hk
      have := ih (b + 1) (by omega)
      unfold cnU at this
      refine b_Book_unheardBeacons_4 (ifF (show ¬ nI 16 ≤ nI b from nI_ge (by omega) (by decide)) ⟨hb.1.imp fun _ q => q.1, cB_isHeard hb hN (by omega) ⟨_, rfl, ?_⟩⟩)
      simp only [nI_1]
      by_cases c : hdB S b N = true
      · rw [if_pos c, Nat.add_zero] at this
        rw [if_pos c]
        exact ifF (by decide) this
      · rw [if_neg c] at this ⊢
        exact ifT rfl this
  exact loop 16 0 rfl
theorem cB_canMove {r : Nat} {c : Int32} (hb : bkA h a n l s S) (hr : r < 7) (K1 : mvA S r c 16 → Q (some (.int 1)) h) (K0 : ¬ mvA S r c 16 → Q (some (.int 0)) h) : zW (d + 2) m_Book_canMove e 0 [.ref a, .int (nI r), .int c, zD, zD] [] h Q := by
  refine b_Book_canMove_0 ?_
  have loop : ∀ k b, b + k = 16 → mvA S r c b → zW (d + 2) m_Book_canMove e 2 [.ref a, .int (nI r), .int c, .int (nI b), zD] [] h Q := by
    intro k
    induction k with
    | zero =>
      intro b hk hm
      have : b = 16 := by omega
      subst this
      exact b_Book_canMove_2 (ifT (show nI 16 ≤ nI 16 from Int32.le_refl _) ⟨by decide, K1 hm⟩)
    | succ k ih =>
      intro b hk hm
      have next : mvO (S (16 * r + b)) c → zW (d + 2) m_Book_canMove e 2 [.ref a, .int (nI r), .int c, .int (nI b + 1), zD] [] h Q := fun q => by
        rw [nI_1]
        refine ih (b + 1) (by omega) (fun j hj => ?_)
        by_cases e : j = b
        · subst e; exact q
        · exact hm j (by omega)
      refine b_Book_canMove_2 (ifF (show ¬ nI 16 ≤ nI b from nI_ge (by omega) (by decide)) ⟨hb.1.imp fun _ q => q.1, cB_stampAt hb hr (by omega) ⟨_, rfl, ifB (fun c1 => next (Or.inl c1)) (fun c1 => ifB (fun c2 => ⟨by decide, K0 (fun q => ?_)⟩) (fun c2 => ifB (fun c3 => next (Or.inr ⟨c2, c3⟩)) (fun c3 => ⟨by decide, K0 (fun q => ?_)⟩)))⟩⟩)
      · rcases q b (by omega) with q | q
        · exact c1 q
        · exact q.1 c2
      · rcases q b (by omega) with q | q
        · exact c1 q
        · exact c3 q.2
  exact loop 16 0 rfl (fun b hb => by omega)
theorem cB_moveStamps {r : Nat} {c : Int32} (hb : bkA h a n l s S) (hr : r < 7) (K : ∀ h', bkA h' a n l s (mvS S r c 16) → zFr (fun q => q = a + 1) h h' → Q (some (.int (nI (cnH S r 16)))) h') : zW (d + 2) m_Book_moveStamps e 0 [.ref a, .int (nI r), .int c, zD, zD, zD] [] h Q := by
  refine b_Book_moveStamps_0 ?_
  have loop : ∀ k b (h1 : zH), b + k = 16 → bkA h1 a n l s (mvS S r c b) → zFr (fun q => q = a + 1) h h1 → zW (d + 2) m_Book_moveStamps e 5 [.ref a, .int (nI r), .int c, .int (nI (cnH S r b)), .int (nI b), zD] [] h1 Q := by
    intro k
    induction k with
    | zero =>
      intro b h1 hk hb1 hf
      have : b = 16 := by omega
      subst this
      exact b_Book_moveStamps_5 (ifT (show nI 16 ≤ nI 16 from Int32.le_refl _) (K h1 hb1 hf))
    | succ k ih =>
      intro b h1 hk hb1 hf
      have e0 : mvS S r c b (16 * r + b) = S (16 * r + b) := by
        unfold mvS; rw [if_neg (by omega)]
      have ecn : cnH S r (b + 1) = cnH S r b + (if S (16 * r + b) = -4 then 0 else 1) := rfl
      refine b_Book_moveStamps_5 (ifF (show ¬ nI 16 ≤ nI b from nI_ge (by omega) (by decide)) ⟨hb1.1.imp fun _ q => q.1, cB_stampAt hb1 hr (by omega) ⟨_, rfl, ifB (fun c1 => ?_) (fun c1 => ⟨hb1.1.imp fun _ q => q.1, cB_putStamp hb1 hr (by omega) (fun h2 hb2 hf2 => ⟨rfl, ?_⟩)⟩)⟩⟩)
      · rw [e0] at c1
        rw [if_pos c1] at ecn
        have := ih (b + 1) h1 (by omega) (hb1.to (fun j hj => ?_)) hf
        · rw [nI_1]; rw [ecn] at this; exact this
        · unfold mvS
          by_cases hj2 : j = 16 * r + b
          · subst hj2; rw [if_neg (by omega), if_neg (fun q => q.2.2 c1)]
          · by_cases hj3 : 16 * r ≤ j ∧ j < 16 * r + b ∧ S j ≠ -4
            · rw [if_pos hj3, if_pos ⟨hj3.1, by omega, hj3.2.2⟩]
            · rw [if_neg hj3, if_neg (fun q => hj3 ⟨q.1, by omega, q.2.2⟩)]
      · rw [e0] at c1 hb2
        rw [if_neg c1] at ecn
        have := ih (b + 1) h2 (by omega) (hb2.to (fun j hj => ?_)) (hf.trans hf2)
        · rw [nI_1, nI_1]; rw [ecn] at this; exact this
        · unfold zU mvS
          by_cases hj2 : j = 16 * r + b
          · subst hj2; rw [if_pos rfl, if_pos ⟨by omega, by omega, c1⟩]
          · rw [if_neg hj2]
            by_cases hj3 : 16 * r ≤ j ∧ j < 16 * r + b ∧ S j ≠ -4
            · rw [if_pos hj3, if_pos ⟨hj3.1, by omega, hj3.2.2⟩]
            · rw [if_neg hj3, if_neg (fun q => hj3 ⟨q.1, by omega, q.2.2⟩)]
  refine loop 16 0 h rfl (hb.to (fun j hj => ?_)) zFr.rf
  unfold mvS
  rw [if_neg (by omega)]
end C
end
section
/-! Sheet, Tape, Drawer -/
theorem lc_le {x y : Int64} : lg_cmp x y ≤ 0 ↔ x ≤ y := by
  unfold lg_cmp
  by_cases h1 : x > y
  · rw [if_pos h1]; exact ⟨fun q => absurd q (by decide), fun q => absurd q (Int64.not_le.mpr h1)⟩
  · rw [if_neg h1]
    refine ⟨fun _ => Int64.not_lt.mp h1, fun _ => ?_⟩
    split <;> decide
theorem lc_lt {x y : Int64} : lg_cmp x y < 0 ↔ x < y := by
  unfold lg_cmp
  by_cases h1 : x > y
  · rw [if_pos h1]; exact ⟨fun q => absurd q (by decide), fun q => absurd (Int64.lt_trans q h1) Int64.lt_irrefl⟩
  · rw [if_neg h1]
    by_cases h2 : x = y
    · rw [if_pos h2]; exact ⟨fun q => absurd q (by decide), fun q => absurd (h2 ▸ q) Int64.lt_irrefl⟩
    · rw [if_neg h2]; exact ⟨fun _ => Int64.lt_of_le_of_ne (Int64.not_lt.mp h1) h2, fun _ => by decide⟩
theorem lc_gt {x y : Int64} : 0 < lg_cmp x y ↔ y < x := by
  unfold lg_cmp
  by_cases h1 : x > y
  · rw [if_pos h1]; exact ⟨fun _ => h1, fun _ => by decide⟩
  · rw [if_neg h1]
    refine ⟨fun q => ?_, fun q => absurd q h1⟩
    split at q <;> exact absurd q (by decide)
theorem lc_ge {x y : Int64} : 0 ≤ lg_cmp x y ↔ y ≤ x := by
  rw [← Int32.not_lt, lc_lt, Int64.not_lt]
theorem lc_eq {x y : Int64} : lg_cmp x y = 0 ↔ x = y := by
  unfold lg_cmp
  by_cases h1 : x > y
  · rw [if_pos h1]; exact ⟨fun q => absurd q (by decide), fun q => absurd (q ▸ h1) Int64.lt_irrefl⟩
  · rw [if_neg h1]
    by_cases h2 : x = y
    · rw [if_pos h2]; exact ⟨fun _ => h2, fun _ => rfl⟩
    · rw [if_neg h2]; exact ⟨fun q => absurd q (by decide), fun q => absurd q h2⟩
/-- a sheet at a, its cells behind it -/
def shA (h : zH) (a : Nat) (sz ln : Int32) (C : Nat → Int64) : Prop := (∃ F, h.2 a = zO 4 F ∧ F 0 = .int sz ∧ F 1 = .int ln ∧ F 2 = .ref (a + 1)) ∧ ∃ C0, h.2 (a + 1) = zL 48 C0 ∧ ∀ k, k < 48 → C0 k = C k
theorem shA.fr {A : Nat → Prop} {h h' : zH} {a : Nat} {sz ln : Int32} {C : Nat → Int64} (b : shA h a sz ln C) (f : zFr A h h') (h1 : ¬ A a) (h2 : ¬ A (a + 1)) : shA h' a sz ln C := by
  obtain ⟨⟨F, hF, q⟩, C0, hC, hC0⟩ := b
  exact ⟨⟨F, by rw [f a h1]; exact hF, q⟩, C0, by rw [f _ h2]; exact hC, hC0⟩
/-- THE TAPE: the cells 10, 11 -/
def tpA (h : zH) (n : Nat) (T : Nat → Int32) : Prop := (∃ F, h.2 10 = zO 5 F ∧ F 0 = .int (nI n) ∧ F 1 = .ref 11) ∧ ∃ T0, h.2 11 = zI 2 300 T0 ∧ ∀ k, k < n → T0 k = T k
theorem tpA.fr {A : Nat → Prop} {h h' : zH} {n : Nat} {T : Nat → Int32} (b : tpA h n T) (f : zFr A h h') (h1 : ¬ A 10) (h2 : ¬ A 11) : tpA h' n T := by
  obtain ⟨⟨F, hF, q⟩, T0, hT, hT0⟩ := b
  exact ⟨⟨F, by rw [f 10 h1]; exact hF, q⟩, T0, by rw [f 11 h2]; exact hT, hT0⟩
/-- behind the bytes from p on that are lo to hi (k are left) -/
def rnT (T : Nat → Int32) (lo hi : Int32) : Nat → Nat → Nat
  | 0, p => p
  | k + 1, p => if T p < lo ∨ hi < T p then p else rnT T lo hi k (p + 1)
theorem rnT_ge (T : Nat → Int32) (lo hi : Int32) : ∀ k p, p ≤ rnT T lo hi k p ∧ rnT T lo hi k p ≤ p + k
  | 0, p => ⟨Nat.le_refl _, Nat.le_refl _⟩
  | k + 1, p => by
    unfold rnT
    split
    · omega
    · have := rnT_ge T lo hi k (p + 1)
      omega
section C
variable {d : Nat} {e : Nat × Nat} {h : zH} {Q : zQ} {a : Nat}
theorem cS_isNothing {sz ln : Int32} {C : Nat → Int64} (hs : shA h a sz ln C) (K : Q (some (.int (if sz = -1 then 1 else 0))) h) : zW (d + 1) m_Sheet_isNothing e 0 [.ref a] [] h Q := by
  obtain ⟨⟨F, hF, f0, -⟩, -⟩ := hs
  refine b_Sheet_isNothing_0 ⟨F, hF, _, f0, ifB (fun c => ⟨by decide, ?_⟩) (fun c => ⟨by decide, ?_⟩)⟩
  · rw [if_pos c] at K; exact K
  · rw [if_neg c] at K; exact K
theorem cS_hasCell {sz ln : Int32} {C : Nat → Int64} {i : Int32} (hs : shA h a sz ln C) (K : Q (some (.int (if ¬ i < 0 ∧ i < sz then 1 else 0))) h) : zW (d + 1) m_Sheet_hasCell e 0 [.ref a, .int i] [] h Q := by
  obtain ⟨⟨F, hF, f0, -⟩, -⟩ := hs
  refine b_Sheet_hasCell_0 (ifB (fun c => ⟨by decide, ?_⟩) (fun c => ⟨F, hF, _, f0, ifB (fun c2 => ⟨by decide, ?_⟩) (fun c2 => ⟨by decide, ?_⟩)⟩))
  · rw [if_neg (fun q => q.1 c)] at K; exact K
  · rw [if_neg (fun q => Int32.not_lt.mpr c2 q.2)] at K; exact K
  · rw [if_pos ⟨c, Int32.not_le.mp c2⟩] at K; exact K
theorem cS_renew {sz ln sz2 ln2 : Int32} {C : Nat → Int64} (hs : shA h a sz ln C) (K : ∀ h', shA h' a sz2 ln2 (fun _ => 0) → zFr (fun q => q = a ∨ q = a + 1) h h' → Q none h') : zW (d + 2) m_Sheet_renew e 0 [.ref a, .int ln2, .int sz2] [] h Q := by
  obtain ⟨⟨F, hF, f0, f1, f2⟩, C0, hC, hC0⟩ := hs
  refine b_Sheet_renew_0 ⟨F, hF, ?_⟩
  rintro h2 rfl
  refine ⟨_, zP_same _ _ _, ?_⟩
  rintro h4 rfl
  rw [zP_zP]
  refine ⟨_, zP_same _ _ _, a + 1, f2, ?_⟩
  refine cJ_fillJ (f := C0) (n := 48) (by rw [zP_ne _ _ (by omega)]; exact hC) (by decide) (fun f' hf => ⟨rfl, ?_⟩)
  exact K _ ⟨⟨_, (zP_ne _ _ (by omega)).trans (zP_same _ _ _), rfl, rfl, f2⟩, f', zP_same _ _ _, hf⟩ ((zFr.put (Or.inl rfl)).trans (zFr.put (Or.inr rfl)))
theorem cS_putCell {sz ln : Int32} {C : Nat → Int64} {i : Nat} {v : Int32} (hs : shA h a sz ln C) (hi : i < 48) (K : ∀ h', shA h' a sz ln (zU C i (if ln = 0 then v.toInt16.toInt32.toInt64 else v.toInt64)) → zFr (fun q => q = a + 1) h h' → Q none h') : zW (d + 1) m_Sheet_putCell e 0 [.ref a, .int (nI i), .int v] [] h Q := by
  obtain ⟨⟨F, hF, f0, f1, f2⟩, C0, hC, hC0⟩ := hs
  have key : ∀ x : Int64, (∀ h', shA h' a sz ln (zU C i x) → zFr (fun q => q = a + 1) h h' → Q none h') → ∃ n5 f6, h.2 (a + 1) = zL n5 f6 ∧ zIn (nI i) n5 ∧ ∀ h7, h7 = zP h (a + 1) (zL n5 (zU f6 (nI i).toNatClampNeg x)) → Q none h7 := by
    intro x K
    refine ⟨48, C0, hC, zIn_nI hi (by decide), ?_⟩
    rintro h7 rfl
    rw [nI_clamp (by omega)]
    refine K _ ⟨⟨F, (zP_ne _ _ (by omega)).trans hF, f0, f1, f2⟩, _, zP_same _ _ _, fun k hk => ?_⟩ (zFr.put rfl)
    unfold zU
    split
    · rfl
    · exact hC0 k hk
  refine b_Sheet_putCell_0 ⟨F, hF, _, f2, F, hF, _, f1, ifB (fun c => key _ ?_) (fun c => key _ ?_)⟩
  · rw [if_pos c] at K; exact K
  · rw [if_neg c] at K; exact K
theorem cS_stampIn {sz ln : Int32} {C : Nat → Int64} {i : Nat} (hs : shA h a sz ln C) (hi : i < 48) (K : Q (some (.int (if 0 ≤ C i then (C i).toInt32 else -4))) h) : zW (d + 1) m_Sheet_stampIn e 0 [.ref a, .int (nI i)] [] h Q := by
  obtain ⟨⟨F, hF, f0, f1, f2⟩, C0, hC, hC0⟩ := hs
  refine b_Sheet_stampIn_0 ⟨F, hF, _, f2, 48, C0, hC, zIn_nI hi (by decide), ?_⟩
  rw [nI_clamp (by omega), hC0 i hi]
  refine ifB (fun c => ⟨F, hF, _, f2, 48, C0, hC, zIn_nI hi (by decide), ?_⟩) (fun c => ?_)
  · rw [hC0 i hi]
    rw [if_pos (lc_ge.mp c)] at K
    exact K
  · rw [if_neg (fun q => c (lc_ge.mpr q))] at K
    exact K
theorem cT_append {n : Nat} {T : Nat → Int32} {c : Int32} (ht : tpA h n T) (hn : n ≤ 300) (hc : c.toInt8.toInt32 = c) (K1 : n < 300 → ∀ h', tpA h' (n + 1) (zU T n c) → zFr (fun q => q = 10 ∨ q = 11) h h' → Q (some (.int 1)) h') (K0 : n = 300 → Q (some (.int 0)) h) : zW (d + 1) m_Tape_append e 0 [.ref 10, .int c] [] h Q := by
  obtain ⟨⟨F, hF, f0, f1⟩, T0, hT, hT0⟩ := ht
  refine b_Tape_append_0 ⟨F, hF, _, f0, ifB (fun c1 => ?_) (fun c1 => ⟨by decide, K0 ?_⟩)⟩
  · have hlt : n < 300 := (nI_ltI (b := 300) (by omega) (by decide)).mp c1
    refine ⟨F, hF, _, f1, F, hF, _, f0, 300, T0, hT, zIn_nI hlt (by decide), ?_⟩
    rintro h9 rfl
    refine ⟨F, (zP_ne _ _ (by decide)).trans hF, _, f0, F, (zP_ne _ _ (by decide)).trans hF, ?_⟩
    rintro h13 rfl
    refine ⟨by decide, K1 hlt _ ⟨⟨_, zP_same _ _ _, by rw [zU_same]; exact congrArg _ (nI_1 n), f1⟩, _, (zP_ne _ _ (by decide)).trans (zP_same _ _ _), fun k hk => ?_⟩ ((zFr.put (Or.inr rfl)).trans (zFr.put (Or.inl rfl)))⟩
    rw [nI_clamp (by omega), hc, hc]
    unfold zU
    split
    · rfl
    · exact hT0 k (by omega)
  · have := mt (nI_ltI (a := n) (b := 300) (by omega) (by decide)).mpr c1
    omega
theorem cT_byteAt {n p : Nat} {T : Nat → Int32} (ht : tpA h n T) (hn : n ≤ 300) (hp : p < 2 ^ 31) (K : Q (some (.int (if p < n then T p else 0))) h) : zW (d + 1) m_Tape_byteAt e 0 [.ref 10, .int (nI p)] [] h Q := by
  obtain ⟨⟨F, hF, f0, f1⟩, T0, hT, hT0⟩ := ht
  refine b_Tape_byteAt_0 (ifF (nI_pos hp) ⟨F, hF, _, f0, ifB (fun c => ?_) (fun c => ⟨F, hF, _, f1, 300, T0, hT, zIn_nI ?_ (by decide), ?_⟩)⟩)
  · rw [if_neg (by have := (nI_leI (by omega) hp).mp c; omega)] at K; exact K
  · have := mt (nI_leI (a := n) (b := p) (by omega) hp).mpr c
    omega
  · have := mt (nI_leI (a := n) (b := p) (by omega) hp).mpr c
    rw [if_pos (by omega)] at K
    rw [nI_clamp (by omega), hT0 p (by omega)]
    exact K
theorem cT_behindRun {n p : Nat} {T : Nat → Int32} {lo hi : Int32} (ht : tpA h n T) (hn : n ≤ 300) (hp : p ≤ n) (K : Q (some (.int (nI (rnT T lo hi (n - p) p)))) h) : zW (d + 1) m_Tape_behindRun e 0 [.ref 10, .int (nI p), .int lo, .int hi, zD] [] h Q := by
  refine b_Tape_behindRun_0 ?_
  obtain ⟨⟨F, hF, f0, f1⟩, T0, hT, hT0⟩ := ht
  have loop : ∀ k p, p + k = n → Q (some (.int (nI (rnT T lo hi k p)))) h → zW (d + 1) m_Tape_behindRun e 3 [.ref 10, zD, .int lo, .int hi, .int (nI p)] [] h Q := by
    intro k
    induction k with
    | zero =>
      intro p hk K2
      have : p = n := by omega
      subst this
      exact b_Tape_behindRun_3 (ifF (nI_pos (by omega)) ⟨F, hF, _, f0, ifT (Int32.le_refl _) ⟨F, hF, _, f0, K2⟩⟩)
    | succ k ih =>
      intro p hk K2
      refine b_Tape_behindRun_3 (ifF (nI_pos (by omega)) ⟨F, hF, _, f0, ifF (nI_ge (by omega) (by omega)) ⟨F, hF, _, f1, 300, T0, hT, zIn_nI (by omega) (by decide), ?_⟩⟩)
      rw [nI_clamp (by omega), hT0 p (by omega)]
      unfold rnT at K2
      refine ifB (fun c => ?_) (fun c => ⟨F, hF, _, f1, 300, T0, hT, zIn_nI (by omega) (by decide), ?_⟩)
      · rw [if_pos (Or.inl c)] at K2; exact K2
      · rw [hT0 p (by omega), nI_1]
        refine ifB (fun c2 => ?_) (fun c2 => ?_)
        · rw [if_neg (by rintro (q | q); exact c q; exact Int32.not_lt.mpr c2 q)] at K2
          exact ih (p + 1) (by omega) K2
        · rw [if_pos (Or.inr (Int32.not_le.mp c2))] at K2; exact K2
  exact loop (n - p) p (by omega) K
end C
end
section
/-! the mask of the points that are left; bitCount; the seed's bits -/
theorem tb_eq {x y : Int32} (h : x.toBitVec.toNat = y.toBitVec.toNat) : x = y := Int32.toBitVec.inj (BitVec.eq_of_toNat_eq h)
theorem nI_and {a b : Nat} (ha : a < 2 ^ 32) (hb : b < 2 ^ 32) : nI a &&& nI b = nI (a &&& b) := by
  refine tb_eq ?_
  rw [Int32.toBitVec_and, BitVec.toNat_and, pk_tn ha, pk_tn hb, pk_tn (Nat.and_lt_two_pow _ hb)]
theorem nI_or {a b : Nat} (ha : a < 2 ^ 32) (hb : b < 2 ^ 32) : nI a ||| nI b = nI (a ||| b) := by
  refine tb_eq ?_
  rw [Int32.toBitVec_or, BitVec.toNat_or, pk_tn ha, pk_tn hb, pk_tn (Nat.or_lt_two_pow ha hb)]
theorem nI_xor {a b : Nat} (ha : a < 2 ^ 32) (hb : b < 2 ^ 32) : nI a ^^^ nI b = nI (a ^^^ b) := by
  refine tb_eq ?_
  rw [Int32.toBitVec_xor, BitVec.toNat_xor, pk_tn ha, pk_tn hb, pk_tn (Nat.xor_lt_two_pow ha hb)]
/-- the mask of the first k -/
def mkL (L : Nat → Bool) : Nat → Nat
  | 0 => 0
  | b + 1 => mkL L b + (if L b = true then 2 ^ b else 0)
theorem mkL_lt (L : Nat → Bool) : ∀ k, mkL L k < 2 ^ k
  | 0 => Nat.le_refl 1
  | k + 1 => by
    have := mkL_lt L k
    unfold mkL
    rw [Nat.pow_succ]
    split <;> omega
theorem mkL_bit (L : Nat → Bool) : ∀ k j, (mkL L k).testBit j = (decide (j < k) && L j)
  | 0, j => by simp [mkL]
  | k + 1, j => by
    have hlt := mkL_lt L k
    have ih := mkL_bit L k j
    unfold mkL
    by_cases c : L k = true
    · rw [if_pos c, Nat.add_comm, show 2 ^ k + mkL L k = 2 ^ k * 1 + mkL L k by omega, Nat.two_pow_add_eq_or_of_lt hlt, Nat.mul_one, Nat.testBit_or, Nat.testBit_two_pow, ih]
      by_cases e : k = j
      · subst e; simp [c]
      · by_cases h1 : j < k
        · simp [e, h1, Nat.lt_succ_of_lt h1]
        · simp [e, h1, show ¬ j < k + 1 by omega]
    · rw [if_neg c, Nat.add_zero, ih]
      by_cases e : k = j
      · subst e; simp at c; simp [c]
      · by_cases h1 : j < k
        · simp [h1, Nat.lt_succ_of_lt h1]
        · simp [h1, show ¬ j < k + 1 by omega]
theorem mkL_congr {L L' : Nat → Bool} : ∀ {k : Nat}, (∀ j, j < k → L j = L' j) → mkL L k = mkL L' k
  | 0, _ => rfl
  | k + 1, h => by
    unfold mkL
    rw [mkL_congr (fun j hj => h j (by omega)), h k (by omega)]
theorem sh_b : ∀ b, b < 16 → ((nI b &&& 31).toBitVec.smod 32).toNat = b := by decide +kernel
/-- a bit of the mask -/
theorem mk_is {L : Nat → Bool} {b : Nat} (hb : b < 16) : ((nI (mkL L 16) >>> (nI b &&& 31)) &&& (1 : Int32)) = nI (if L b = true then 1 else 0) := by
  have hm := mkL_lt L 16
  have hm' : mkL L 16 < 65536 := hm
  rw [pk_shrN (by omega) _ b (sh_b b hb), pk_andN (k := 1) (by have : mkL L 16 / 2 ^ b ≤ mkL L 16 := Nat.div_le_self _ _; omega) (by decide)]
  congr 1
  have h1 := mkL_bit L 16 b
  rw [decide_eq_true hb, Bool.true_and] at h1
  have h2 : mkL L 16 / 2 ^ b % 2 ^ 1 = ((mkL L 16).testBit b).toNat := by
    rw [Nat.testBit_eq_decide_div_mod_eq, Nat.pow_one]
    rcases Nat.mod_two_eq_zero_or_one (mkL L 16 / 2 ^ b) with q | q <;> rw [q] <;> rfl
  rw [h2, h1]
  cases L b <;> rfl
/-- a point more -/
theorem mk_or {L : Nat → Bool} {b : Nat} (hb : b < 16) (hL : L b = true) : nI (mkL L b) ||| ((1 : Int32) <<< (nI b &&& 31)) = nI (mkL L (b + 1)) := by
  have hlt := mkL_lt L b
  have h16 : 2 ^ b < 2 ^ 16 := Nat.pow_lt_pow_right (by decide) hb
  have e1 : (1 : Int32) <<< (nI b &&& 31) = nI (2 ^ b) := by
    have := pk_shlN (n := 1) (nI b &&& 31) b (sh_b b hb) (by rw [Nat.one_mul]; omega)
    rw [Nat.one_mul] at this
    exact this
  rw [e1, nI_or (by omega) (by omega)]
  congr 1
  have e3 : mkL L (b + 1) = mkL L b + (if L b = true then 2 ^ b else 0) := rfl
  rw [e3, if_pos hL, Nat.add_comm, show 2 ^ b + mkL L b = 2 ^ b * 1 + mkL L b by omega, Nat.two_pow_add_eq_or_of_lt hlt, Nat.mul_one, Nat.or_comm]
/-- a point less -/
def rmL (L : Nat → Bool) (f : Nat) : Nat → Bool := fun j => L j && !(j == f)
theorem mk_rm {L : Nat → Bool} {f : Nat} (hf : f < 16) : nI (mkL L 16) &&& (((1 : Int32) <<< (nI f &&& 31)) ^^^ (-1 : Int32)) = nI (mkL (rmL L f) 16) := by
  have hm := mkL_lt L 16
  have hm' : mkL L 16 < 65536 := hm
  have h16 : 2 ^ f < 2 ^ 16 := Nat.pow_lt_pow_right (by decide) hf
  have h16' : 2 ^ f < 65536 := h16
  have e1 : (1 : Int32) <<< (nI f &&& 31) = nI (2 ^ f) := by
    have := pk_shlN (n := 1) (nI f &&& 31) f (sh_b f hf) (by rw [Nat.one_mul]; omega)
    rw [Nat.one_mul] at this
    exact this
  have e2 : (-1 : Int32) = nI (2 ^ 32 - 1) := by decide
  rw [e1, e2, nI_xor (by omega) (by decide), nI_and (by omega) (Nat.xor_lt_two_pow (by omega) (by decide))]
  congr 1
  refine Nat.eq_of_testBit_eq fun j => ?_
  rw [Nat.testBit_and, Nat.testBit_xor, Nat.testBit_two_pow, Nat.testBit_two_pow_sub_one, mkL_bit, mkL_bit]
  unfold rmL
  by_cases h1 : j < 16
  · have h32 : j < 32 := by omega
    by_cases h2 : f = j
    · subst h2; simp [h1, h32]
    · have h3 : (j == f) = false := by simp; omega
      simp [h1, h32, h2, h3]
  · simp [h1]
/-- how many are left of the first k -/
def cnL (L : Nat → Bool) : Nat → Nat
  | 0 => 0
  | b + 1 => cnL L b + (if L b = true then 1 else 0)
theorem cnL_le (L : Nat → Bool) : ∀ k, cnL L k ≤ k
  | 0 => Nat.le_refl _
  | k + 1 => by
    have := cnL_le L k
    unfold cnL
    split <;> omega
theorem cnL_congr {L L' : Nat → Bool} : ∀ {k : Nat}, (∀ j, j < k → L j = L' j) → cnL L k = cnL L' k
  | 0, _ => rfl
  | k + 1, h => by
    unfold cnL
    rw [cnL_congr (fun j hj => h j (by omega)), h k (by omega)]
/-- bitCount, over numbers -/
def bcN (m : Nat) : Nat :=
  let v1 := m - ((m / 2) &&& 1431655765)
  let v2 := (v1 &&& 858993459) + ((v1 / 4) &&& 858993459)
  let v3 := (v2 + v2 / 16) &&& 252645135
  let v4 := v3 + v3 / 256
  let v5 := v4 + v4 / 65536
  v5 &&& 63
def pcN (m : Nat) : Nat → Nat
  | 0 => 0
  | k + 1 => pcN m k + (m / 2 ^ k) % 2
def bcT (m : Nat) : Bool := Nat.beq (bcN m) (pcN m 16) && Nat.ble ((m / 2) &&& 1431655765) m
theorem bc_0 : ((List.range 32).all fun a => (List.range 64).all fun b => bcT (0 + 64 * a + b)) = true := by decide +kernel
theorem bc_1 : ((List.range 32).all fun a => (List.range 64).all fun b => bcT (2048 + 64 * a + b)) = true := by decide +kernel
theorem bc_2 : ((List.range 32).all fun a => (List.range 64).all fun b => bcT (4096 + 64 * a + b)) = true := by decide +kernel
theorem bc_3 : ((List.range 32).all fun a => (List.range 64).all fun b => bcT (6144 + 64 * a + b)) = true := by decide +kernel
theorem bc_4 : ((List.range 32).all fun a => (List.range 64).all fun b => bcT (8192 + 64 * a + b)) = true := by decide +kernel
theorem bc_5 : ((List.range 32).all fun a => (List.range 64).all fun b => bcT (10240 + 64 * a + b)) = true := by decide +kernel
theorem bc_6 : ((List.range 32).all fun a => (List.range 64).all fun b => bcT (12288 + 64 * a + b)) = true := by decide +kernel
theorem bc_7 : ((List.range 32).all fun a => (List.range 64).all fun b => bcT (14336 + 64 * a + b)) = true := by decide +kernel
theorem bc_8 : ((List.range 32).all fun a => (List.range 64).all fun b => bcT (16384 + 64 * a + b)) = true := by decide +kernel
theorem bc_9 : ((List.range 32).all fun a => (List.range 64).all fun b => bcT (18432 + 64 * a + b)) = true := by decide +kernel
theorem bc_10 : ((List.range 32).all fun a => (List.range 64).all fun b => bcT (20480 + 64 * a + b)) = true := by decide +kernel
theorem bc_11 : ((List.range 32).all fun a => (List.range 64).all fun b => bcT (22528 + 64 * a + b)) = true := by decide +kernel
theorem bc_12 : ((List.range 32).all fun a => (List.range 64).all fun b => bcT (24576 + 64 * a + b)) = true := by decide +kernel
theorem bc_13 : ((List.range 32).all fun a => (List.range 64).all fun b => bcT (26624 + 64 * a + b)) = true := by decide +kernel
theorem bc_14 : ((List.range 32).all fun a => (List.range 64).all fun b => bcT (28672 + 64 * a + b)) = true := by decide +kernel
theorem bc_15 : ((List.range 32).all fun a => (List.range 64).all fun b => bcT (30720 + 64 * a + b)) = true := by decide +kernel
theorem bc_16 : ((List.range 32).all fun a => (List.range 64).all fun b => bcT (32768 + 64 * a + b)) = true := by decide +kernel
theorem bc_17 : ((List.range 32).all fun a => (List.range 64).all fun b => bcT (34816 + 64 * a + b)) = true := by decide +kernel
theorem bc_18 : ((List.range 32).all fun a => (List.range 64).all fun b => bcT (36864 + 64 * a + b)) = true := by decide +kernel
theorem bc_19 : ((List.range 32).all fun a => (List.range 64).all fun b => bcT (38912 + 64 * a + b)) = true := by decide +kernel
theorem bc_20 : ((List.range 32).all fun a => (List.range 64).all fun b => bcT (40960 + 64 * a + b)) = true := by decide +kernel
theorem bc_21 : ((List.range 32).all fun a => (List.range 64).all fun b => bcT (43008 + 64 * a + b)) = true := by decide +kernel
theorem bc_22 : ((List.range 32).all fun a => (List.range 64).all fun b => bcT (45056 + 64 * a + b)) = true := by decide +kernel
theorem bc_23 : ((List.range 32).all fun a => (List.range 64).all fun b => bcT (47104 + 64 * a + b)) = true := by decide +kernel
theorem bc_24 : ((List.range 32).all fun a => (List.range 64).all fun b => bcT (49152 + 64 * a + b)) = true := by decide +kernel
theorem bc_25 : ((List.range 32).all fun a => (List.range 64).all fun b => bcT (51200 + 64 * a + b)) = true := by decide +kernel
theorem bc_26 : ((List.range 32).all fun a => (List.range 64).all fun b => bcT (53248 + 64 * a + b)) = true := by decide +kernel
theorem bc_27 : ((List.range 32).all fun a => (List.range 64).all fun b => bcT (55296 + 64 * a + b)) = true := by decide +kernel
theorem bc_28 : ((List.range 32).all fun a => (List.range 64).all fun b => bcT (57344 + 64 * a + b)) = true := by decide +kernel
theorem bc_29 : ((List.range 32).all fun a => (List.range 64).all fun b => bcT (59392 + 64 * a + b)) = true := by decide +kernel
theorem bc_30 : ((List.range 32).all fun a => (List.range 64).all fun b => bcT (61440 + 64 * a + b)) = true := by decide +kernel
theorem bc_31 : ((List.range 32).all fun a => (List.range 64).all fun b => bcT (63488 + 64 * a + b)) = true := by decide +kernel
theorem bc_of {c : Nat} (h : ((List.range 32).all fun a => (List.range 64).all fun b => bcT (c + 64 * a + b)) = true) {m : Nat} (h1 : c ≤ m) (h2 : m < c + 2048) : bcT m = true := by
  have h3 := List.all_eq_true.mp (List.all_eq_true.mp h ((m - c) / 64) (List.mem_range.mpr (by omega))) ((m - c) % 64) (List.mem_range.mpr (by omega))
  rw [show c + 64 * ((m - c) / 64) + (m - c) % 64 = m by omega] at h3
  exact h3
theorem bc_ok {m : Nat} (h : m < 65536) : bcN m = pcN m 16 ∧ (m / 2 &&& 1431655765) ≤ m := by
  have key : bcT m = true := by
    rcases (show (0 ≤ m ∧ m < 0 + 2048) ∨ (2048 ≤ m ∧ m < 2048 + 2048) ∨ (4096 ≤ m ∧ m < 4096 + 2048) ∨ (6144 ≤ m ∧ m < 6144 + 2048) ∨ (8192 ≤ m ∧ m < 8192 + 2048) ∨ (10240 ≤ m ∧ m < 10240 + 2048) ∨ (12288 ≤ m ∧ m < 12288 + 2048) ∨ (14336 ≤ m ∧ m < 14336 + 2048) ∨ (16384 ≤ m ∧ m < 16384 + 2048) ∨ (18432 ≤ m ∧ m < 18432 + 2048) ∨ (20480 ≤ m ∧ m < 20480 + 2048) ∨ (22528 ≤ m ∧ m < 22528 + 2048) ∨ (24576 ≤ m ∧ m < 24576 + 2048) ∨ (26624 ≤ m ∧ m < 26624 + 2048) ∨ (28672 ≤ m ∧ m < 28672 + 2048) ∨ (30720 ≤ m ∧ m < 30720 + 2048) ∨ (32768 ≤ m ∧ m < 32768 + 2048) ∨ (34816 ≤ m ∧ m < 34816 + 2048) ∨ (36864 ≤ m ∧ m < 36864 + 2048) ∨ (38912 ≤ m ∧ m < 38912 + 2048) ∨ (40960 ≤ m ∧ m < 40960 + 2048) ∨ (43008 ≤ m ∧ m < 43008 + 2048) ∨ (45056 ≤ m ∧ m < 45056 + 2048) ∨ (47104 ≤ m ∧ m < 47104 + 2048) ∨ (49152 ≤ m ∧ m < 49152 + 2048) ∨ (51200 ≤ m ∧ m < 51200 + 2048) ∨ (53248 ≤ m ∧ m < 53248 + 2048) ∨ (55296 ≤ m ∧ m < 55296 + 2048) ∨ (57344 ≤ m ∧ m < 57344 + 2048) ∨ (59392 ≤ m ∧ m < 59392 + 2048) ∨ (61440 ≤ m ∧ m < 61440 + 2048) ∨ (63488 ≤ m ∧ m < 63488 + 2048) by omega) with q | q | q | q | q | q | q | q | q | q | q | q | q | q | q | q | q | q | q | q | q | q | q | q | q | q | q | q | q | q | q | q
    · exact bc_of bc_0 q.1 q.2
    · exact bc_of bc_1 q.1 q.2
    · exact bc_of bc_2 q.1 q.2
    · exact bc_of bc_3 q.1 q.2
    · exact bc_of bc_4 q.1 q.2
    · exact bc_of bc_5 q.1 q.2
    · exact bc_of bc_6 q.1 q.2
    · exact bc_of bc_7 q.1 q.2
    · exact bc_of bc_8 q.1 q.2
    · exact bc_of bc_9 q.1 q.2
    · exact bc_of bc_10 q.1 q.2
    · exact bc_of bc_11 q.1 q.2
    · exact bc_of bc_12 q.1 q.2
    · exact bc_of bc_13 q.1 q.2
    · exact bc_of bc_14 q.1 q.2
    · exact bc_of bc_15 q.1 q.2
    · exact bc_of bc_16 q.1 q.2
    · exact bc_of bc_17 q.1 q.2
    · exact bc_of bc_18 q.1 q.2
    · exact bc_of bc_19 q.1 q.2
    · exact bc_of bc_20 q.1 q.2
    · exact bc_of bc_21 q.1 q.2
    · exact bc_of bc_22 q.1 q.2
    · exact bc_of bc_23 q.1 q.2
    · exact bc_of bc_24 q.1 q.2
    · exact bc_of bc_25 q.1 q.2
    · exact bc_of bc_26 q.1 q.2
    · exact bc_of bc_27 q.1 q.2
    · exact bc_of bc_28 q.1 q.2
    · exact bc_of bc_29 q.1 q.2
    · exact bc_of bc_30 q.1 q.2
    · exact bc_of bc_31 q.1 q.2
  simp only [bcT, Bool.and_eq_true] at key
  exact ⟨Nat.eq_of_beq_eq_true key.1, Nat.le_of_ble_eq_true key.2⟩
theorem pc_mk (L : Nat → Bool) : ∀ k, k ≤ 16 → pcN (mkL L 16) k = cnL L k
  | 0, _ => rfl
  | k + 1, h => by
    unfold pcN cnL
    rw [pc_mk L k (by omega)]
    congr 1
    have h1 := mkL_bit L 16 k
    rw [decide_eq_true (show k < 16 by omega), Bool.true_and] at h1
    rw [Nat.testBit_eq_decide_div_mod_eq] at h1
    cases hL : L k
    · rw [hL] at h1
      have := of_decide_eq_false h1
      simp
      omega
    · rw [hL] at h1
      have := of_decide_eq_true h1
      simp
      omega
theorem sh_k : ((1 : Int32).toUInt32 &&& Int32.toUInt32 31).toBitVec % 32 = 1 ∧ ((2 : Int32).toUInt32 &&& Int32.toUInt32 31).toBitVec % 32 = 2 ∧ ((4 : Int32).toUInt32 &&& Int32.toUInt32 31).toBitVec % 32 = 4 ∧ ((8 : Int32).toUInt32 &&& Int32.toUInt32 31).toBitVec % 32 = 8 ∧ ((16 : Int32).toUInt32 &&& Int32.toUInt32 31).toBitVec % 32 = 16 := by decide +kernel
section C
variable {d : Nat} {e : Nat × Nat} {h : zH} {Q : zQ}
theorem cJ_bitCount {L : Nat → Bool} (K : Q (some (.int (nI (cnL L 16)))) h) : zW (d + 1) m_JInt_bitCount e 0 [.int (nI (mkL L 16))] [] h Q := by
  have hm : mkL L 16 < 65536 := mkL_lt L 16
  obtain ⟨h1, h2⟩ := bc_ok hm
  rw [pc_mk L 16 (by omega)] at h1
  refine b_JInt_bitCount_0 (b_JInt_bitCount_10 ?_)
  generalize mkL L 16 = m at hm h1 h2
  have u : ∀ {n k : Nat} (s : Int32), n < 2 ^ 32 → ((s.toUInt32 &&& Int32.toUInt32 31).toBitVec % 32).toNat = k → ((nI n).toUInt32 >>> (s.toUInt32 &&& Int32.toUInt32 31)).toInt32 = nI (n / 2 ^ k) := fun s hn hs => pk_ushrN hn s _ hs
  rw [u 1 (k := 1) (by omega) (by rw [sh_k.1]; rfl), show (1431655765 : Int32) = nI 1431655765 from rfl, nI_and (by omega) (by decide), pk_sub (show (m / 2 ^ 1) &&& 1431655765 ≤ m from h2)]
  have v1 : m - (m / 2 ^ 1 &&& 1431655765) ≤ m := Nat.sub_le _ _
  generalize hv1 : m - (m / 2 ^ 1 &&& 1431655765) = a at v1 ⊢
  rw [u 2 (k := 2) (by omega) (by rw [sh_k.2.1]; rfl), show (858993459 : Int32) = nI 858993459 from rfl, nI_and (by omega) (by decide), nI_and (by omega) (by decide), nI_add]
  have v2 : (a &&& 858993459) + (a / 2 ^ 2 &&& 858993459) ≤ a + a / 2 ^ 2 := Nat.add_le_add Nat.and_le_left Nat.and_le_left
  generalize hv2 : (a &&& 858993459) + (a / 2 ^ 2 &&& 858993459) = b at v2 ⊢
  rw [u 4 (k := 4) (by omega) (by rw [sh_k.2.2.1]; rfl), nI_add, show (252645135 : Int32) = nI 252645135 from rfl, nI_and (by omega) (by decide)]
  have v3 : (b + b / 2 ^ 4 &&& 252645135) ≤ b + b / 2 ^ 4 := Nat.and_le_left
  generalize hv3 : (b + b / 2 ^ 4 &&& 252645135) = c at v3 ⊢
  rw [u 8 (k := 8) (by omega) (by rw [sh_k.2.2.2.1]; rfl), nI_add, u 16 (k := 16) (by omega) (by rw [sh_k.2.2.2.2]; rfl), nI_add, show (63 : Int32) = nI 63 from rfl, nI_and (by omega) (by decide)]
  have e9 : (c + c / 2 ^ 8 + (c + c / 2 ^ 8) / 2 ^ 16 &&& 63) = bcN m := by
    rw [← hv3, ← hv2, ← hv1]; rfl
  rw [e9, h1]
  exact K
end C
/-- the seed -/
def sdN (x : Int32) : Int32 := x * 1103515245 + 12345
def sdI : Nat → Int32 → Int32
  | 0, s => s
  | k + 1, s => sdN (sdI k s)
def sdV (x : Int32) : Int32 := (x.toUInt32 >>> ((16 : Int32).toUInt32 &&& Int32.toUInt32 31)).toInt32 &&& 32767
theorem sdV_nI (x : Int32) : ∃ j, j < 32768 ∧ sdV x = nI j := pk_andE _ 15 (by decide)
/-- by a shift with the sign, too -/
theorem sdV_s (x : Int32) : (x >>> ((16 : Int32) &&& 31)) &&& 32767 = sdV x := by
  unfold sdV
  refine tb_eq ?_
  rw [Int32.toBitVec_and, Int32.toBitVec_and, BitVec.toNat_and, BitVec.toNat_and]
  refine Nat.eq_of_testBit_eq fun j => ?_
  rw [Nat.testBit_and, Nat.testBit_and]
  have e : (32767 : Int32).toBitVec.toNat = 2 ^ 15 - 1 := by decide
  rw [e, Nat.testBit_two_pow_sub_one]
  by_cases hj : j < 15
  · have h1 : ((x >>> ((16 : Int32) &&& 31)).toBitVec.toNat).testBit j = (x.toBitVec.toNat).testBit (16 + j) := by
      have e2 : (x >>> ((16 : Int32) &&& 31)).toBitVec = x.toBitVec.sshiftRight 16 := by
        rw [Int32.toBitVec_shiftRight]
        rfl
      rw [e2, BitVec.testBit_toNat, BitVec.getLsbD_sshiftRight, BitVec.testBit_toNat]
      simp [show ¬ 32 ≤ j by omega, show 16 + j < 32 by omega]
    have h2 : (((x.toUInt32 >>> ((16 : Int32).toUInt32 &&& Int32.toUInt32 31)).toInt32).toBitVec.toNat).testBit j = (x.toBitVec.toNat).testBit (16 + j) := by
      rw [pk_ushr x 16 16 (by decide), Nat.testBit_div_two_pow, Nat.add_comm]
    rw [h1, h2]
  · simp [hj]
end
section
/-! the numbers of a line: sums, FAR, what a fit says; bounds -/
def bd (a : Int64) (A : Nat) : Prop := a.toInt.natAbs ≤ A
theorem bm_id {x : Int} (h : x.natAbs < 2 ^ 63) : x.bmod (2 ^ 64) = x := Int.bmod_eq_of_le_mul_two (by omega) (by omega)
theorem bd.mono {a : Int64} {A B : Nat} (h : bd a A) (hAB : A ≤ B) : bd a B := Nat.le_trans h hAB
theorem bd_add {a b : Int64} {A B : Nat} (ha : bd a A) (hb : bd b B) (h : A + B < 2 ^ 63) : (a + b).toInt = a.toInt + b.toInt ∧ bd (a + b) (A + B) := by
  have h1 : (a.toInt + b.toInt).natAbs ≤ A + B := Nat.le_trans (Int.natAbs_add_le _ _) (Nat.add_le_add ha hb)
  have e : (a + b).toInt = a.toInt + b.toInt := by rw [Int64.toInt_add, bm_id (by omega)]
  exact ⟨e, by unfold bd; rw [e]; exact h1⟩
theorem bd_sub {a b : Int64} {A B : Nat} (ha : bd a A) (hb : bd b B) (h : A + B < 2 ^ 63) : (a - b).toInt = a.toInt - b.toInt ∧ bd (a - b) (A + B) := by
  have h1 : (a.toInt - b.toInt).natAbs ≤ A + B := Nat.le_trans (Int.natAbs_sub_le _ _) (Nat.add_le_add ha hb)
  have e : (a - b).toInt = a.toInt - b.toInt := by rw [Int64.toInt_sub, bm_id (by omega)]
  exact ⟨e, by unfold bd; rw [e]; exact h1⟩
theorem bd_mul {a b : Int64} {A B : Nat} (ha : bd a A) (hb : bd b B) (h : A * B < 2 ^ 63) : (a * b).toInt = a.toInt * b.toInt ∧ bd (a * b) (A * B) := by
  have h1 : (a.toInt * b.toInt).natAbs ≤ A * B := by rw [Int.natAbs_mul]; exact Nat.mul_le_mul ha hb
  have e : (a * b).toInt = a.toInt * b.toInt := by rw [Int64.toInt_mul, bm_id (by omega)]
  exact ⟨e, by unfold bd; rw [e]; exact h1⟩
theorem bd_neg {a : Int64} {A : Nat} (ha : bd a A) (h : A < 2 ^ 63) : (-a).toInt = -a.toInt ∧ bd (-a) A := by
  have h1 : (-a.toInt).natAbs ≤ A := by rw [Int.natAbs_neg]; exact ha
  have e : (-a).toInt = -a.toInt := by rw [Int64.toInt_neg, bm_id (by omega)]
  exact ⟨e, by unfold bd; rw [e]; exact h1⟩
theorem bd_lN {n : Nat} (h : n < 2 ^ 63) : (lN n).toInt = n ∧ bd (lN n) n := by
  have e : (lN n).toInt = n := Int64.toInt_ofNat_of_lt h
  exact ⟨e, by unfold bd; rw [e]; exact Nat.le_refl _⟩
/-- sums over what is left -/
def smL (g : Nat → Int64) (L : Nat → Bool) : Nat → Int64
  | 0 => 0
  | k + 1 => if L k = true then smL g L k + g k else smL g L k
def smI (g : Nat → Int) (L : Nat → Bool) : Nat → Int
  | 0 => 0
  | k + 1 => if L k = true then smI g L k + g k else smI g L k
theorem smL_ok {g : Nat → Int64} {L : Nat → Bool} {B : Nat} (hB : 16 * B < 2 ^ 63) : ∀ k, k ≤ 16 → (∀ b, b < k → L b = true → bd (g b) B) → (smL g L k).toInt = smI (fun b => (g b).toInt) L k ∧ bd (smL g L k) (k * B)
  | 0, _, _ => ⟨rfl, by unfold bd smL; exact Nat.zero_le _⟩
  | k + 1, hk, hg => by
    obtain ⟨h1, h2⟩ := smL_ok hB k (by omega) (fun b hb => hg b (by omega))
    unfold smL smI
    by_cases c : L k = true
    · rw [if_pos c, if_pos c]
      have hk2 : k * B + B = (k + 1) * B := by rw [Nat.succ_mul]
      have hle : (k + 1) * B ≤ 16 * B := Nat.mul_le_mul_right _ hk
      obtain ⟨e1, e2⟩ := bd_add h2 (hg k (by omega) c) (by omega)
      rw [hk2] at e2
      exact ⟨by rw [e1, h1], e2⟩
    · rw [if_neg c, if_neg c]
      exact ⟨h1, h2.mono (Nat.mul_le_mul_right _ (by omega))⟩
/-- the sum of the squares of what is off, and that N times the squares is not below the square -/
theorem sm_sq {g : Nat → Int} {L : Nat → Bool} (a : Int) : ∀ k, 0 ≤ smI (fun b => g b * g b) L k - 2 * a * smI g L k + (cnL L k : Int) * (a * a)
  | 0 => by simp [smI, cnL]
  | k + 1 => by
    have ih := sm_sq (g := g) (L := L) a k
    unfold smI cnL
    by_cases c : L k = true
    · rw [if_pos c, if_pos c, if_pos c]
      have hs : 0 ≤ (g k - a) * (g k - a) := by
        rcases Int.le_total 0 (g k - a) with q | q
        · exact Int.mul_nonneg q q
        · exact Int.mul_nonneg_of_nonpos_of_nonpos q q
      have e : smI (fun b => g b * g b) L k + g k * g k - 2 * a * (smI g L k + g k) + ((cnL L k + 1 : Nat) : Int) * (a * a) = (smI (fun b => g b * g b) L k - 2 * a * smI g L k + (cnL L k : Int) * (a * a)) + (g k - a) * (g k - a) := by
        rw [Int.natCast_add]
        simp only [Int.mul_add, Int.add_mul, Int.mul_sub, Int.sub_mul, Int.natCast_one, Int.one_mul]
        have : a * g k = g k * a := Int.mul_comm _ _
        have e2 : 2 * a * g k = a * g k + a * g k := by rw [Int.mul_assoc, Int.two_mul]
        omega
      rw [e]
      exact Int.add_nonneg ih hs
    · rw [if_neg c, if_neg c, if_neg c]
      exact ih
theorem sm_cs {g : Nat → Int} {L : Nat → Bool} : ∀ k, 0 ≤ (cnL L k : Int) * smI (fun b => g b * g b) L k - smI g L k * smI g L k
  | 0 => by simp [smI, cnL]
  | k + 1 => by
    have ih := sm_cs (g := g) (L := L) k
    have hq := sm_sq (g := g) (L := L) (g k) k
    unfold smI cnL
    by_cases c : L k = true
    · rw [if_pos c, if_pos c, if_pos c]
      have e : ((cnL L k + 1 : Nat) : Int) * (smI (fun b => g b * g b) L k + g k * g k) - (smI g L k + g k) * (smI g L k + g k) = ((cnL L k : Int) * smI (fun b => g b * g b) L k - smI g L k * smI g L k) + (smI (fun b => g b * g b) L k - 2 * g k * smI g L k + (cnL L k : Int) * (g k * g k)) := by
        rw [Int.natCast_add]
        simp only [Int.mul_add, Int.add_mul, Int.natCast_one, Int.one_mul]
        have h1 : smI g L k * g k = g k * smI g L k := Int.mul_comm _ _
        have e2 : 2 * g k * smI g L k = g k * smI g L k + g k * smI g L k := by rw [Int.mul_assoc, Int.two_mul]
        omega
      rw [e]
      exact Int.add_nonneg ih hq
    · rw [if_neg c, if_neg c, if_neg c]
      exact ih
/-- stamps are as told -/
def StK (S : Nat → Int32) : Prop := ∀ k, k < 112 → S k = -4 ∨ (0 ≤ S k ∧ S k ≤ 9999)
def pX (S : Nat → Int32) (r b : Nat) : Int64 := (S (16 * r + b)).toInt64
/-- what is left are points that both heard -/
def PtL (S : Nat → Int32) (r s : Nat) (L : Nat → Bool) : Prop := ∀ b, b < 16 → L b = true → S (16 * r + b) ≠ -4 ∧ S (16 * s + b) ≠ -4
theorem pX_bd {S : Nat → Int32} (hS : StK S) {r b : Nat} (hr : r < 7) (hb : b < 16) (h : S (16 * r + b) ≠ -4) : bd (pX S r b) 9999 ∧ 0 ≤ (pX S r b).toInt := by
  rcases hS (16 * r + b) (by omega) with q | ⟨q1, q2⟩
  · exact absurd q h
  · have h1 : (0 : Int) ≤ (S (16 * r + b)).toInt := by simpa using Int32.le_iff_toInt_le.mp q1
    have h2 : (S (16 * r + b)).toInt ≤ 9999 := Int32.le_iff_toInt_le.mp q2
    unfold bd pX
    rw [Int32.toInt_toInt64]
    omega
section M
variable (S : Nat → Int32) (r s : Nat) (L : Nat → Bool)
def lX : Int64 := smL (pX S r) L 16
def lSX : Int64 := smL (fun b => pX S r b * pX S r b) L 16
def lSY : Int64 := smL (fun b => pX S r b * pX S s b) L 16
def lxx : Int64 := lN (cnL L 16) * lSX S r L - lX S r L * lX S r L
def lxy : Int64 := lN (cnL L 16) * lSY S r s L - lX S r L * lX S s L
def lden : Int64 := lN (cnL L 16) * lxx S r L
def abL (f : Int64) : Int64 := if 0 ≤ f then f else -f
def lfr (b : Nat) : Int64 := pX S s b * lden S r L - lX S s L * lxx S r L - lxy S r s L * (lN (cnL L 16) * pX S r b - lX S r L)
def lfar (b : Nat) : Int64 := abL (lfr S r s L b)
/-- the farthest of the first k: its beacon, its FAR -/
def ffL : Nat → Int32 × Int64
  | 0 => (-4, -1)
  | b + 1 => if L b = true ∧ (ffL b).2 < lfar S r s L b then (nI b, lfar S r s L b) else ffL b
def lkd (li le : Int32) : Int32 := if nI (cnL L 16) < le ∨ lxx S r L = 0 then 0 else if (ffL S r s L 16).2 ≤ li.toInt64 * lden S r L then 2 else if nI (cnL L 16) = le then 1 else -1
end M
/-- a fit: what it is, what is left, how many were struck, which -/
def fitL (S : Nat → Int32) (r s : Nat) (li le : Int32) : Nat → (Nat → Bool) → Nat → (Nat → Int32) → Int32 × (Nat → Bool) × Nat × (Nat → Int32)
  | 0, L, c, sk => (-1, L, c, sk)
  | k + 1, L, c, sk => if lkd S r s L li le = -1 then fitL S r s li le k (rmL L (ffL S r s L 16).1.toNatClampNeg) (c + 1) (zU sk c (ffL S r s L 16).1) else (lkd S r s L li le, L, c, sk)
section M
variable {S : Nat → Int32} {r s : Nat} {L : Nat → Bool}
theorem lX_bd (hS : StK S) (hr : r < 7) (hL : ∀ b, b < 16 → L b = true → S (16 * r + b) ≠ -4) : (lX S r L).toInt = smI (fun b => (pX S r b).toInt) L 16 ∧ bd (lX S r L) 159984 := smL_ok (B := 9999) (by decide) 16 (Nat.le_refl _) (fun b hb hb2 => (pX_bd hS hr hb (hL b hb hb2)).1)
theorem cn16 : bd (lN (cnL L 16)) 16 ∧ (lN (cnL L 16)).toInt = (cnL L 16 : Int) := by
  have := cnL_le L 16
  obtain ⟨h1, h2⟩ := bd_lN (n := cnL L 16) (by omega)
  exact ⟨h2.mono this, h1⟩
theorem smI_congr {f g : Nat → Int} : ∀ k, (∀ b, b < k → L b = true → f b = g b) → smI f L k = smI g L k
  | 0, _ => rfl
  | k + 1, h => by
    unfold smI
    rw [smI_congr k (fun b hb => h b (by omega))]
    by_cases c : L k = true
    · rw [if_pos c, if_pos c, h k (by omega) c]
    · rw [if_neg c, if_neg c]
theorem lSX_bd (hS : StK S) (hr : r < 7) (hs : s < 7) (hL : PtL S r s L) : bd (lSY S r s L) 1599680016 := (smL_ok (B := 99980001) (by decide) 16 (Nat.le_refl _) (fun b hb hb2 => (bd_mul (pX_bd hS hr hb (hL b hb hb2).1).1 (pX_bd hS hs hb (hL b hb hb2).2).1 (by decide)).2)).2
/-- XX: no overflow, not below 0 -/
theorem lxx_ok (hS : StK S) (hr : r < 7) (hL : ∀ b, b < 16 → L b = true → S (16 * r + b) ≠ -4) : bd (lxx S r L) 51189760512 ∧ 0 ≤ (lxx S r L).toInt := by
  obtain ⟨hX1, hX2⟩ := lX_bd hS hr hL
  have hq := smL_ok (g := fun b => pX S r b * pX S r b) (L := L) (B := 99980001) (by decide) 16 (Nat.le_refl _) (fun b hb hb2 => (bd_mul (pX_bd hS hr hb (hL b hb hb2)).1 (pX_bd hS hr hb (hL b hb hb2)).1 (by decide)).2)
  obtain ⟨c1, c2⟩ := cn16 (L := L)
  obtain ⟨e1, e2⟩ := bd_mul c1 hq.2 (by decide)
  obtain ⟨e3, e4⟩ := bd_mul hX2 hX2 (by decide)
  obtain ⟨e5, e6⟩ := bd_sub e2 e4 (by decide)
  refine ⟨e6.mono (by decide), ?_⟩
  have e7 : (lxx S r L).toInt = (cnL L 16 : Int) * smI (fun b => (pX S r b).toInt * (pX S r b).toInt) L 16 - smI (fun b => (pX S r b).toInt) L 16 * smI (fun b => (pX S r b).toInt) L 16 := by
    show (lN (cnL L 16) * smL (fun b => pX S r b * pX S r b) L 16 - lX S r L * lX S r L).toInt = _
    rw [e5, e1, e3, hX1, c2, hq.1]
    congr 2
    exact smI_congr 16 (fun b hb hb2 => (bd_mul (pX_bd hS hr hb (hL b hb hb2)).1 (pX_bd hS hr hb (hL b hb hb2)).1 (by decide)).1)
  rw [e7]
  exact sm_cs 16
theorem lxy_bd (hS : StK S) (hr : r < 7) (hs : s < 7) (hL : PtL S r s L) : bd (lxy S r s L) 51189760512 := by
  have hX := (lX_bd hS hr (fun b hb h => (hL b hb h).1)).2
  have hY := (lX_bd hS hs (fun b hb h => (hL b hb h).2)).2
  obtain ⟨c1, c2⟩ := cn16 (L := L)
  exact ((bd_sub (bd_mul c1 (lSX_bd hS hr hs hL) (by decide)).2 (bd_mul hX hY (by decide)).2 (by decide)).2).mono (by decide)
/-- DEN -/
theorem lden_ok (hS : StK S) (hr : r < 7) (hL : ∀ b, b < 16 → L b = true → S (16 * r + b) ≠ -4) : bd (lden S r L) 819036168192 ∧ (lden S r L).toInt = (cnL L 16 : Int) * (lxx S r L).toInt := by
  obtain ⟨c1, c2⟩ := cn16 (L := L)
  obtain ⟨e1, e2⟩ := bd_mul c1 (lxx_ok hS hr hL).1 (by decide)
  exact ⟨e2.mono (by decide), by show (lN (cnL L 16) * lxx S r L).toInt = _; rw [e1, c2]⟩
theorem lden_pos (hS : StK S) (hr : r < 7) (hL : ∀ b, b < 16 → L b = true → S (16 * r + b) ≠ -4) (hn : 0 < cnL L 16) (hx : lxx S r L ≠ 0) : 0 < (lden S r L).toInt := by
  rw [(lden_ok hS hr hL).2]
  have h1 := (lxx_ok hS hr hL).2
  have h2 : (lxx S r L).toInt ≠ 0 := fun q => hx (Int64.toInt_inj.mp (by rw [q]; rfl))
  exact Int.mul_pos (by omega) (by omega)
/-- FAR of a point that both heard: no overflow -/
theorem lfr_bd (hS : StK S) (hr : r < 7) (hs : s < 7) (hL : PtL S r s L) {b : Nat} (hb : b < 16) (h1 : S (16 * r + b) ≠ -4) (h2 : S (16 * s + b) ≠ -4) : bd (lfr S r s L b) 40000000000000000 := by
  have hX := (lX_bd hS hr (fun b hb h => (hL b hb h).1)).2
  have hY := (lX_bd hS hs (fun b hb h => (hL b hb h).2)).2
  have hxx := (lxx_ok hS hr (fun b hb h => (hL b hb h).1)).1
  have hd := (lden_ok hS hr (fun b hb h => (hL b hb h).1)).1
  have hxy := lxy_bd hS hr hs hL
  obtain ⟨c1, c2⟩ := cn16 (L := L)
  have g1 := (bd_mul (pX_bd hS hs hb h2).1 hd (by decide)).2
  have g2 := (bd_mul hY hxx (by decide)).2
  have g3 := (bd_sub (bd_mul c1 (pX_bd hS hr hb h1).1 (by decide)).2 hX (by decide)).2
  have g4 := (bd_mul hxy g3 (by decide)).2
  exact (bd_sub (bd_sub g1 g2 (by decide)).2 g4 (by decide)).2.mono (by decide)
theorem abL_ok {f : Int64} {A : Nat} (h : bd f A) (hA : A < 2 ^ 63) : bd (abL f) A ∧ 0 ≤ (abL f).toInt := by
  unfold abL
  by_cases c : (0 : Int64) ≤ f
  · rw [if_pos c]
    exact ⟨h, by simpa using Int64.le_iff_toInt_le.mp c⟩
  · rw [if_neg c]
    obtain ⟨e1, e2⟩ := bd_neg h hA
    refine ⟨e2, ?_⟩
    have : f.toInt < 0 := by
      have := Int64.lt_iff_toInt_lt.mp (Int64.not_le.mp c)
      simpa using this
    omega
theorem lfar_ok (hS : StK S) (hr : r < 7) (hs : s < 7) (hL : PtL S r s L) {b : Nat} (hb : b < 16) (h1 : S (16 * r + b) ≠ -4) (h2 : S (16 * s + b) ≠ -4) : bd (lfar S r s L b) 40000000000000000 ∧ 0 ≤ (lfar S r s L b).toInt := abL_ok (lfr_bd hS hr hs hL hb h1 h2) (by decide)
/-- the farthest is a point that is left, if there is one -/
theorem ff_ok (hS : StK S) (hr : r < 7) (hs : s < 7) (hL : PtL S r s L) : ∀ k, k ≤ 16 → (cnL L k = 0 ∧ ffL S r s L k = (-4, -1)) ∨ ∃ f, f < k ∧ L f = true ∧ ffL S r s L k = (nI f, lfar S r s L f)
  | 0, _ => Or.inl ⟨rfl, rfl⟩
  | k + 1, hk => by
    have ih := ff_ok hS hr hs hL k (by omega)
    unfold ffL cnL
    by_cases c : L k = true
    · right
      by_cases c2 : (ffL S r s L k).2 < lfar S r s L k
      · exact ⟨k, by omega, c, by rw [if_pos ⟨c, c2⟩]⟩
      · rw [if_neg (fun q => c2 q.2)]
        rcases ih with ⟨-, e⟩ | ⟨f, h1, h2, h3⟩
        · exfalso
          apply c2
          rw [e]
          have := (lfar_ok hS hr hs hL (show k < 16 by omega) (hL k (by omega) c).1 (hL k (by omega) c).2).2
          rw [Int64.lt_iff_toInt_lt]
          show (-1 : Int64).toInt < _
          have e1 : (-1 : Int64).toInt = -1 := by decide
          omega
        · exact ⟨f, by omega, h2, h3⟩
    · rw [if_neg c, if_neg (fun q => c q.1)]
      rcases ih with ⟨e0, e⟩ | ⟨f, h1, h2, h3⟩
      · exact Or.inl ⟨by omega, e⟩
      · exact Or.inr ⟨f, by omega, h2, h3⟩
theorem cnL_rm {f : Nat} : ∀ k, (cnL (rmL L f) k = cnL L k ∧ k ≤ f) ∨ (f < k ∧ cnL (rmL L f) k + (if L f = true then 1 else 0) = cnL L k)
  | 0 => Or.inl ⟨rfl, Nat.zero_le _⟩
  | k + 1 => by
    have ih := cnL_rm (f := f) k
    unfold cnL
    by_cases e : k = f
    · subst e
      right
      have hr : rmL L k k = false := by simp [rmL]
      rcases ih with ⟨h1, h2⟩ | ⟨h1, h2⟩
      · rw [hr, h1]
        refine ⟨by omega, ?_⟩
        rfl
      · omega
    · have hr : rmL L f k = L k := by
        unfold rmL
        have : (k == f) = false := by simp; exact e
        rw [this]; simp
      rw [hr]
      rcases ih with ⟨h1, h2⟩ | ⟨h1, h2⟩
      · exact Or.inl ⟨by rw [h1], by omega⟩
      · exact Or.inr ⟨by omega, by omega⟩
theorem PtL_rm {f : Nat} (h : PtL S r s L) : PtL S r s (rmL L f) := fun b hb hb2 => h b hb (by unfold rmL at hb2; simp at hb2; exact hb2.1)
end M
end
section
/-! Line: a fit -/
/-- the fields that sumUp writes -/
def lnS (F : Nat → Value) (S : Nat → Int32) (r s : Nat) (L : Nat → Bool) : Prop := F 2 = .int (nI (cnL L 16)) ∧ F 3 = .long (lX S r L) ∧ F 4 = .long (lX S s L) ∧ F 5 = .long (lxx S r L) ∧ F 6 = .long (lxy S r s L) ∧ F 7 = .long (lden S r L)
section C
variable {d : Nat} {e : Nat × Nat} {h : zH} {Q : zQ} {a : Nat} {n l q : Int32} {S : Nat → Int32} {F : Nat → Value} {L : Nat → Bool} {r s : Nat}
theorem cL_isLeft {b : Nat} (hF : h.2 a = zO 3 F) (f12 : F 12 = .int (nI (mkL L 16))) (hb : b < 16) (K1 : L b = true → Q (some (.int 1)) h) (K0 : L b = false → Q (some (.int 0)) h) : zW (d + 1) m_Line_isLeft e 0 [.ref a, .int (nI b)] [] h Q := by
  refine b_Line_isLeft_0 ⟨F, hF, _, f12, ?_⟩
  rw [mk_is hb]
  cases hL : L b with
  | true => exact ifT rfl ⟨by decide, K1 hL⟩
  | false => exact ifF (by decide) ⟨by decide, K0 hL⟩
theorem cL_farOf {px py : Int64} (hF : h.2 a = zO 3 F) (hs : lnS F S r s L) (K : Q (some (.long (abL (py * lden S r L - lX S s L * lxx S r L - lxy S r s L * (lN (cnL L 16) * px - lX S r L))))) h) : zW (d + 1) m_Line_farOf e 0 [.ref a, .long px, zD, .long py, zD, zD, zD] [] h Q := by
  obtain ⟨f2, f3, f4, f5, f6, f7⟩ := hs
  have hc := cnL_le L 16
  refine b_Line_farOf_0 ⟨F, hF, _, f7, F, hF, _, f4, F, hF, _, f5, F, hF, _, f6, F, hF, _, f2, F, hF, _, f3, ?_⟩
  rw [nI_l (by omega)]
  unfold abL at K
  refine ifB (fun c => ?_) (fun c => ?_)
  · rw [if_pos (lc_ge.mp c)] at K; exact K
  · rw [if_neg (fun w => c (lc_ge.mpr w))] at K; exact K
theorem cL_sumUp (ha : 19 ≤ a) (hb : bkA h 15 n l q S) (hF : h.2 a = zO 3 F) (f12 : F 12 = .int (nI (mkL L 16))) (hr : r < 7) (hs : s < 7)
    (K : ∀ h' F', h'.2 a = zO 3 F' → zFr (fun z => z = a) h h' → lnS F' S r s L → (∀ k, k < 2 ∨ 7 < k → F' k = F k) → Q none h') : zW (d + 2) m_Line_sumUp e 0 [.ref a, .ref 15, .int (nI r), .int (nI s), zD, zD, zD, zD, zD, zD, zD, zD, zD] [] h Q := by
  have hc := cnL_le L 16
  refine b_Line_sumUp_0 ⟨F, hF, _, f12, cJ_bitCount ⟨_, rfl, F, hF, ?_⟩⟩
  rintro h7 rfl
  refine ⟨_, zP_same _ _ _, ?_⟩
  rintro h9 rfl
  rw [zP_zP]
  refine ⟨_, zP_same _ _ _, ?_⟩
  rintro h11 rfl
  rw [zP_zP]
  have loop : ∀ k b (h1 : zH) (G : Nat → Value), b + k = 16 → h1.2 a = zO 3 G → zFr (fun z => z = a) h h1 → G 2 = .int (nI (cnL L 16)) → G 3 = .long (smL (pX S r) L b) → G 4 = .long (smL (pX S s) L b) → (∀ j, j < 2 ∨ 7 < j → G j = F j) →
      zW (d + 2) m_Line_sumUp e 30 [.ref a, .ref 15, .int (nI r), .int (nI s), .long (smL (fun b => pX S r b * pX S r b) L b), zD, .long (smL (fun b => pX S r b * pX S s b) L b), zD, .int (nI b), zD, zD, zD, zD] [] h1 Q := by
    intro k
    induction k with
    | zero =>
      intro b h1 G hk hG hf g2 g3 g4 go
      have : b = 16 := by omega
      subst this
      refine b_Line_sumUp_30 (ifT (show nI 16 ≤ nI 16 from Int32.le_refl _) ?_)
      refine b_Line_sumUp_114 ⟨G, hG, _, g2, G, hG, _, g3, G, hG, _, g3, G, hG, ?_⟩
      rintro h8 rfl
      refine ⟨_, zP_same _ _ _, _, g2, _, zP_same _ _ _, _, g3, _, zP_same _ _ _, _, g4, _, zP_same _ _ _, ?_⟩
      rintro h16 rfl
      rw [zP_zP]
      refine ⟨_, zP_same _ _ _, _, g2, _, zP_same _ _ _, _, rfl, _, zP_same _ _ _, ?_⟩
      rintro h22 rfl
      rw [zP_zP]
      have e2 : (nI (cnL L 16)).toInt64 = lN (cnL L 16) := nI_l (by omega)
      refine K _ _ (zP_same _ _ _) (hf.trans (zFr.put rfl)) ⟨g2, g3, g4, ?_, ?_, ?_⟩ (fun j hj => ?_)
      · show Value.long _ = _; rw [e2]; rfl
      · show Value.long _ = _; rw [e2]; rfl
      · show Value.long _ = _; rw [e2]; rfl
      · rw [zU_ne _ _ (by omega), zU_ne _ _ (by omega), zU_ne _ _ (by omega)]
        exact go j hj
    | succ k ih =>
      intro b h1 G hk hG hf g2 g3 g4 go
      have hb1 : bkA h1 15 n l q S := hb.fr hf (by omega) (by omega)
      have g12 : G 12 = .int (nI (mkL L 16)) := (go 12 (by omega)).trans f12
      refine b_Line_sumUp_30 (ifF (show ¬ nI 16 ≤ nI b from nI_ge (by omega) (by decide)) ⟨⟨_, hG⟩, cL_isLeft hG g12 (by omega) (fun c => ⟨_, rfl, ifF (by decide) ?_⟩) (fun c => ⟨_, rfl, ifT rfl ?_⟩)⟩)
      · refine b_Line_sumUp_46 ⟨hb1.1.imp fun _ w => w.1, cB_stampAt hb1 hr (by omega) ⟨_, rfl, hb1.1.imp fun _ w => w.1, cB_stampAt hb1 hs (by omega) ⟨_, rfl, G, hG, _, g3, G, hG, ?_⟩⟩⟩
        rintro h10 rfl
        refine ⟨_, zP_same _ _ _, _, g4, _, zP_same _ _ _, ?_⟩
        rintro h14 rfl
        rw [zP_zP, nI_1]
        have e1 : ∀ g : Nat → Int64, smL g L (b + 1) = smL g L b + g b := fun g => if_pos c
        have := ih (b + 1) (zP h1 a (zO 3 (zU (zU G 3 (.long (smL (pX S r) L b + pX S r b))) 4 (.long (smL (pX S s) L b + pX S s b))))) _ (by omega) (zP_same _ _ _) (hf.trans (zFr.put rfl)) g2 (by rw [e1]; rfl) (by rw [e1]; rfl) (fun j hj => by rw [zU_ne _ _ (by omega), zU_ne _ _ (by omega)]; exact go j hj)
        rw [e1, e1] at this
        exact this
      · rw [nI_1]
        have e1 : ∀ g : Nat → Int64, smL g L (b + 1) = smL g L b := fun g => if_neg (by rw [c]; decide)
        have := ih (b + 1) h1 G (by omega) hG hf g2 (by rw [e1]; exact g3) (by rw [e1]; exact g4) go
        rw [e1, e1] at this
        exact this
  refine loop 16 0 _ _ rfl (zP_same _ _ _) (zFr.put rfl) rfl rfl rfl (fun j hj => ?_)
  rw [zU_ne _ _ (by omega), zU_ne _ _ (by omega), zU_ne _ _ (by omega)]
theorem cL_findFarthest (ha : 19 ≤ a) (hb : bkA h 15 n l q S) (hF : h.2 a = zO 3 F) (f12 : F 12 = .int (nI (mkL L 16))) (hls : lnS F S r s L) (hr : r < 7) (hs : s < 7)
    (K : ∀ h' F', h'.2 a = zO 3 F' → zFr (fun z => z = a) h h' → F' 8 = .int (ffL S r s L 16).1 → F' 9 = .long (ffL S r s L 16).2 → (∀ k, k ≠ 8 → k ≠ 9 → F' k = F k) → Q none h') : zW (d + 2) m_Line_findFarthest e 0 [.ref a, .ref 15, .int (nI r), .int (nI s), zD, zD, zD] [] h Q := by
  refine b_Line_findFarthest_0 ⟨F, hF, ?_⟩
  rintro h2 rfl
  refine ⟨_, zP_same _ _ _, ?_⟩
  rintro h4 rfl
  rw [zP_zP]
  have loop : ∀ k b (h1 : zH) (G : Nat → Value), b + k = 16 → h1.2 a = zO 3 G → zFr (fun z => z = a) h h1 → G 8 = .int (ffL S r s L b).1 → G 9 = .long (ffL S r s L b).2 → (∀ j, j ≠ 8 → j ≠ 9 → G j = F j) →
      zW (d + 2) m_Line_findFarthest e 16 [.ref a, .ref 15, .int (nI r), .int (nI s), .int (nI b), zD, zD] [] h1 Q := by
    intro k
    induction k with
    | zero =>
      intro b h1 G hk hG hf g8 g9 go
      have : b = 16 := by omega
      subst this
      exact b_Line_findFarthest_16 (ifT (show nI 16 ≤ nI 16 from Int32.le_refl _) (K h1 G hG hf g8 g9 go))
    | succ k ih =>
      intro b h1 G hk hG hf g8 g9 go
      have hb1 : bkA h1 15 n l q S := hb.fr hf (by omega) (by omega)
      have g12 : G 12 = .int (nI (mkL L 16)) := (go 12 (by decide) (by decide)).trans f12
      obtain ⟨f2, f3, f4, f5, f6, f7⟩ := hls
      have gls : lnS G S r s L := ⟨(go 2 (by decide) (by decide)).trans f2, (go 3 (by decide) (by decide)).trans f3, (go 4 (by decide) (by decide)).trans f4, (go 5 (by decide) (by decide)).trans f5, (go 6 (by decide) (by decide)).trans f6, (go 7 (by decide) (by decide)).trans f7⟩
      have eff : ffL S r s L (b + 1) = if L b = true ∧ (ffL S r s L b).2 < lfar S r s L b then (nI b, lfar S r s L b) else ffL S r s L b := rfl
      refine b_Line_findFarthest_16 (ifF (show ¬ nI 16 ≤ nI b from nI_ge (by omega) (by decide)) ⟨⟨_, hG⟩, cL_isLeft hG g12 (by omega) (fun c => ⟨_, rfl, ifF (by decide) ⟨hb1.1.imp fun _ w => w.1, cB_stampAt hb1 hr (by omega) ⟨_, rfl, hb1.1.imp fun _ w => w.1, cB_stampAt hb1 hs (by omega) ⟨_, rfl, ⟨_, hG⟩, cL_farOf hG gls ⟨_, rfl, G, hG, _, g9, ifB (fun c2 => ?_) (fun c2 => ⟨G, hG, ?_⟩)⟩⟩⟩⟩⟩) (fun c => ⟨_, rfl, ifT rfl ?_⟩)⟩)
      · have hn : ¬ (L b = true ∧ (ffL S r s L b).2 < lfar S r s L b) := fun w => Int64.not_lt.mpr (lc_le.mp c2) w.2
        rw [if_neg hn] at eff
        rw [nI_1]
        exact ih (b + 1) h1 G (by omega) hG hf (by rw [eff]; exact g8) (by rw [eff]; exact g9) go
      · rintro h16 rfl
        refine ⟨_, zP_same _ _ _, ?_⟩
        rintro h18 rfl
        rw [zP_zP, nI_1]
        have hn : L b = true ∧ (ffL S r s L b).2 < lfar S r s L b := ⟨c, Int64.not_le.mp (fun w => c2 (lc_le.mpr w))⟩
        rw [if_pos hn] at eff
        refine ih (b + 1) _ _ (by omega) (zP_same _ _ _) (hf.trans (zFr.put rfl)) (by rw [eff]; rfl) (by rw [eff]; rfl) (fun j h8 h9 => ?_)
        rw [zU_ne _ _ h9, zU_ne _ _ h8]
        exact go j h8 h9
      · have hn : ¬ (L b = true ∧ (ffL S r s L b).2 < lfar S r s L b) := fun w => by rw [c] at w; exact absurd w.1 (by decide)
        rw [if_neg hn] at eff
        rw [nI_1]
        exact ih (b + 1) h1 G (by omega) hG hf (by rw [eff]; exact g8) (by rw [eff]; exact g9) go
  refine loop 16 0 _ _ rfl (zP_same _ _ _) (zFr.put rfl) rfl rfl (fun j h8 h9 => ?_)
  rw [zU_ne _ _ h9, zU_ne _ _ h8]
theorem cL_judge {li le : Int32} (hF : h.2 a = zO 3 F) (hls : lnS F S r s L) (f9 : F 9 = .long (ffL S r s L 16).2) (K : Q (some (.int (lkd S r s L li le))) h) : zW (d + 1) m_Line_judge e 0 [.ref a, .long li.toInt64, zD, .int le] [] h Q := by
  obtain ⟨f2, f3, f4, f5, f6, f7⟩ := hls
  unfold lkd at K
  refine b_Line_judge_0 ⟨F, hF, _, f2, ifB (fun c => ?_) (fun c => ⟨F, hF, _, f5, ifB (fun c2 => ?_) (fun c2 => ⟨F, hF, _, f9, F, hF, _, f7, ifB (fun c3 => ⟨F, hF, _, f2, ifB (fun c4 => ?_) (fun c4 => ?_)⟩) (fun c3 => ?_)⟩)⟩)⟩
  · rw [if_pos (Or.inl c)] at K; exact K
  · rw [if_pos (Or.inr (lc_eq.mp c2))] at K; exact K
  all_goals rw [if_neg (show ¬ (nI (cnL L 16) < le ∨ lxx S r L = 0) by rintro (w | w); exact c w; exact c2 (lc_eq.mpr w))] at K
  · rw [if_neg (Int64.not_le.mpr (lc_gt.mp c3)), if_pos c4] at K; exact K
  · rw [if_neg (Int64.not_le.mpr (lc_gt.mp c3)), if_neg c4] at K; exact K
  · rw [if_pos (Int64.not_lt.mp (fun w => c3 (lc_gt.mpr w)))] at K; exact K
theorem cL_strike {f c : Nat} {K0 : Nat → Int32} (hF : h.2 a = zO 3 F) (hK0 : h.2 (a + 1) = zI 0 16 K0) (f8 : F 8 = .int (nI f)) (f10 : F 10 = .int (nI c)) (f11 : F 11 = .ref (a + 1)) (f12 : F 12 = .int (nI (mkL L 16))) (hf : f < 16) (hc : c < 16)
    (K : ∀ h' F', h'.2 a = zO 3 F' → h'.2 (a + 1) = zI 0 16 (zU K0 c (nI f)) → zFr (fun z => z = a ∨ z = a + 1) h h' → F' 10 = .int (nI (c + 1)) → F' 12 = .int (nI (mkL (rmL L f) 16)) → (∀ k, k ≠ 10 → k ≠ 12 → F' k = F k) → Q none h') : zW (d + 1) m_Line_strikeFarthest e 0 [.ref a] [] h Q := by
  refine b_Line_strikeFarthest_0 ⟨F, hF, _, f8, ifF (nI_pos (by omega)) ⟨F, hF, _, f10, ifF (show ¬ nI 16 ≤ nI c from nI_ge hc (by decide)) ⟨F, hF, _, f11, F, hF, _, f10, F, hF, _, f8, 16, K0, hK0, zIn_nI hc (by decide), ?_⟩⟩⟩
  rintro h13 rfl
  rw [nI_clamp (by omega)]
  have hF1 : (zP h (a + 1) (zI 0 16 (zU K0 c (nI f)))).2 a = zO 3 F := (zP_ne _ _ (by omega)).trans hF
  refine ⟨F, hF1, _, f10, F, hF1, ?_⟩
  rintro h17 rfl
  refine ⟨_, zP_same _ _ _, _, f12, _, zP_same _ _ _, _, f8, _, zP_same _ _ _, ?_⟩
  rintro h23 rfl
  rw [zP_zP]
  refine K _ _ (zP_same _ _ _) ((zP_ne _ _ (by omega)).trans (zP_same _ _ _)) ((zFr.put (Or.inr rfl)).trans (zFr.put (Or.inl rfl))) ?_ ?_ (fun k h1 h2 => ?_)
  · show Value.int (nI c + 1) = _
    rw [nI_1]
  · show Value.int _ = _
    rw [mk_rm hf]
  · rw [zU_ne _ _ h2, zU_ne _ _ h1]
end C
end
section
/-! Line.fit, costs -/
def bothL (S : Nat → Int32) (r s : Nat) : Nat → Bool := fun b => decide (b < 16) && (decide (S (16 * r + b) ≠ -4) && decide (S (16 * s + b) ≠ -4))
theorem bothL_pt {S : Nat → Int32} {r s : Nat} : PtL S r s (bothL S r s) := fun b _ h => by
  unfold bothL at h
  simp only [Bool.and_eq_true, decide_eq_true_eq] at h
  exact h.2
def sk0 : Nat → Int32 := fun _ => 0
/-- THE LINE from r to s: what it is, the points that are left, how many were struck, which -/
def fR (S : Nat → Int32) (li le : Int32) (r s : Nat) : Int32 × (Nat → Bool) × Nat × (Nat → Int32) := fitL S r s li le 17 (bothL S r s) 0 sk0
/-- a Line's fields, once it is fitted -/
def lnR (F : Nat → Value) (K0 : Nat → Int32) (S : Nat → Int32) (li le : Int32) (r s : Nat) : Prop := F 1 = .int (fR S li le r s).1 ∧ lnS F S r s (fR S li le r s).2.1 ∧ F 8 = .int (ffL S r s (fR S li le r s).2.1 16).1 ∧ F 9 = .long (ffL S r s (fR S li le r s).2.1 16).2 ∧ F 10 = .int (nI (fR S li le r s).2.2.1) ∧ ∀ k, k < (fR S li le r s).2.2.1 → K0 k = (fR S li le r s).2.2.2 k
theorem lkd_m1 {S : Nat → Int32} {r s : Nat} {L : Nat → Bool} {li le : Int32} (h : lkd S r s L li le = -1) : ¬ nI (cnL L 16) < le ∧ lxx S r L ≠ 0 ∧ nI (cnL L 16) ≠ le := by
  unfold lkd at h
  split at h
  · exact absurd h (by decide)
  · rename_i c
    split at h
    · exact absurd h (by decide)
    · split at h
      · exact absurd h (by decide)
      · rename_i c3
        exact ⟨fun q => c (Or.inl q), fun q => c (Or.inr q), c3⟩
/-- what every fit keeps: the points left are heard by both; the struck and the left are not more than 16; it is settled -/
theorem fit_ok {S : Nat → Int32} {r s : Nat} {li le : Int32} (hS : StK S) (hr : r < 7) (hs : s < 7) (hle : 2 ≤ le) : ∀ k L c sk, PtL S r s L → cnL L 16 + 1 ≤ k → cnL L 16 + c ≤ 16 →
    PtL S r s (fitL S r s li le k L c sk).2.1 ∧ (fitL S r s li le k L c sk).2.2.1 ≤ 16 ∧ (fitL S r s li le k L c sk).1 = lkd S r s (fitL S r s li le k L c sk).2.1 li le ∧ (fitL S r s li le k L c sk).1 ≠ -1 ∧ c ≤ (fitL S r s li le k L c sk).2.2.1 ∧ (∀ j, j < c → (fitL S r s li le k L c sk).2.2.2 j = sk j)
  | 0, L, c, sk, _, h, _ => by omega
  | k + 1, L, c, sk, hL, h1, h2 => by
    unfold fitL
    by_cases hk : lkd S r s L li le = -1
    · rw [if_pos hk]
      have hpos : 0 < cnL L 16 := by
        have := (lkd_m1 hk).1
        rcases Nat.eq_zero_or_pos (cnL L 16) with q | q
        · exfalso
          apply this
          rw [q]
          exact Int32.lt_of_lt_of_le (show nI 0 < 2 by decide) hle
        · exact q
      rcases ff_ok hS hr hs hL 16 (Nat.le_refl _) with ⟨q, -⟩ | ⟨f, hf, hLf, e⟩
      · omega
      · rw [e]
        dsimp only
        rw [nI_clamp (by omega)]
        have hcn : cnL (rmL L f) 16 + 1 = cnL L 16 := by
          rcases cnL_rm (L := L) (f := f) 16 with ⟨-, q⟩ | ⟨-, q⟩
          · omega
          · rw [if_pos hLf] at q; exact q
        obtain ⟨g1, g2, g3, g4, g5, g6⟩ := fit_ok hS hr hs hle k (rmL L f) (c + 1) (zU sk c (nI f)) (PtL_rm hL) (by omega) (by omega)
        exact ⟨g1, g2, g3, g4, by omega, fun j hj => by rw [g6 j (by omega), zU_ne _ _ (by omega)]⟩
    · rw [if_neg hk]
      exact ⟨hL, by dsimp only; omega, rfl, hk, Nat.le_refl _, fun _ _ => rfl⟩
/-- two clocks' stamps alone count -/
def rowE (S S' : Nat → Int32) (r : Nat) : Prop := ∀ b, b < 16 → S (16 * r + b) = S' (16 * r + b)
theorem smL_congr {g g' : Nat → Int64} {L : Nat → Bool} : ∀ k, (∀ b, b < k → g b = g' b) → smL g L k = smL g' L k
  | 0, _ => rfl
  | k + 1, h => by
    unfold smL
    rw [smL_congr k (fun b hb => h b (by omega)), h k (by omega)]
section M
variable {S S' : Nat → Int32} {r s : Nat}
theorem pX_e (hr : rowE S S' r) {b : Nat} (hb : b < 16) : pX S r b = pX S' r b := by unfold pX; rw [hr b hb]
theorem lX_e (hr : rowE S S' r) (L : Nat → Bool) : lX S r L = lX S' r L := smL_congr 16 (fun b hb => pX_e hr hb)
theorem lxx_e (hr : rowE S S' r) (L : Nat → Bool) : lxx S r L = lxx S' r L := by
  have e1 : lSX S r L = lSX S' r L := smL_congr 16 (fun b hb => by rw [pX_e hr hb])
  unfold lxx
  rw [lX_e hr, e1]
theorem lxy_e (hr : rowE S S' r) (hs : rowE S S' s) (L : Nat → Bool) : lxy S r s L = lxy S' r s L := by
  have e1 : lSY S r s L = lSY S' r s L := smL_congr 16 (fun b hb => by rw [pX_e hr hb, pX_e hs hb])
  unfold lxy
  rw [lX_e hr, lX_e hs, e1]
theorem lden_e (hr : rowE S S' r) (L : Nat → Bool) : lden S r L = lden S' r L := by unfold lden; rw [lxx_e hr]
theorem lfar_e (hr : rowE S S' r) (hs : rowE S S' s) (L : Nat → Bool) {b : Nat} (hb : b < 16) : lfar S r s L b = lfar S' r s L b := by
  unfold lfar lfr
  rw [pX_e hr hb, pX_e hs hb, lden_e hr, lX_e hs, lxx_e hr, lxy_e hr hs, lX_e hr]
theorem ffL_e (hr : rowE S S' r) (hs : rowE S S' s) (L : Nat → Bool) : ∀ k, k ≤ 16 → ffL S r s L k = ffL S' r s L k
  | 0, _ => rfl
  | k + 1, h => by
    unfold ffL
    rw [ffL_e hr hs L k (by omega), lfar_e hr hs L (show k < 16 by omega)]
theorem lkd_e (hr : rowE S S' r) (hs : rowE S S' s) (L : Nat → Bool) (li le : Int32) : lkd S r s L li le = lkd S' r s L li le := by
  unfold lkd
  rw [lxx_e hr, ffL_e hr hs L 16 (Nat.le_refl _), lden_e hr]
theorem fitL_e (hr : rowE S S' r) (hs : rowE S S' s) (li le : Int32) : ∀ k L c sk, fitL S r s li le k L c sk = fitL S' r s li le k L c sk
  | 0, _, _, _ => rfl
  | k + 1, L, c, sk => by
    unfold fitL
    rw [lkd_e hr hs, ffL_e hr hs L 16 (Nat.le_refl _), fitL_e hr hs li le k]
theorem bothL_e (hr : rowE S S' r) (hs : rowE S S' s) : bothL S r s = bothL S' r s := by
  funext b
  unfold bothL
  by_cases hb : b < 16
  · rw [hr b hb, hs b hb]
  · simp [hb]
theorem fR_e (hr : rowE S S' r) (hs : rowE S S' s) (li le : Int32) : fR S li le r s = fR S' li le r s := by
  unfold fR
  rw [bothL_e hr hs, fitL_e hr hs]
theorem lnR_e (hr : rowE S S' r) (hs : rowE S S' s) {F : Nat → Value} {K0 : Nat → Int32} {li le : Int32} (h : lnR F K0 S li le r s) : lnR F K0 S' li le r s := by
  obtain ⟨h1, ⟨w2, w3, w4, w5, w6, w7⟩, h3, h4, h5, h6⟩ := h
  have e := fR_e hr hs li le
  unfold lnR lnS
  rw [e] at h1 w2 w3 w4 w5 w6 w7 h3 h4 h5 h6
  rw [lX_e hr] at w3
  rw [lX_e hs] at w4
  rw [lxx_e hr] at w5
  rw [lxy_e hr hs] at w6
  rw [lden_e hr] at w7
  rw [ffL_e hr hs _ 16 (Nat.le_refl _)] at h3 h4
  exact ⟨h1, ⟨w2, w3, w4, w5, w6, w7⟩, h3, h4, h5, h6⟩
end M
section C
variable {d : Nat} {e : Nat × Nat} {h : zH} {Q : zQ} {a : Nat} {n l q : Int32} {S : Nat → Int32} {F : Nat → Value} {L : Nat → Bool} {r s : Nat}
theorem cB_heardByBoth {a : Nat} (hb : bkA h a n l q S) (hr : r < 7) (hs : s < 7) (K : Q (some (.int (nI (mkL (bothL S r s) 16)))) h) : zW (d + 2) m_Book_heardByBoth e 0 [.ref a, .int (nI r), .int (nI s), zD, zD] [] h Q := by
  refine b_Book_heardByBoth_0 ?_
  have loop : ∀ k b, b + k = 16 → zW (d + 2) m_Book_heardByBoth e 5 [.ref a, .int (nI r), .int (nI s), .int (nI (mkL (bothL S r s) b)), .int (nI b)] [] h Q := by
    intro k
    induction k with
    | zero =>
      intro b hk
      have : b = 16 := by omega
      subst this
      exact b_Book_heardByBoth_5 (ifT (show nI 16 ≤ nI 16 from Int32.le_refl _) K)
    | succ k ih =>
      intro b hk
      have ih := ih (b + 1) (by omega)
      have no : bothL S r s b = false → zW (d + 2) m_Book_heardByBoth e 5 [.ref a, .int (nI r), .int (nI s), .int (nI (mkL (bothL S r s) b)), .int (nI b + 1)] [] h Q := fun c => by
        have e1 : mkL (bothL S r s) (b + 1) = mkL (bothL S r s) b := by
          show mkL (bothL S r s) b + (if bothL S r s b = true then 2 ^ b else 0) = _
          rw [c]; rfl
        rw [nI_1]
        rw [e1] at ih
        exact ih
      refine b_Book_heardByBoth_5 (ifF (show ¬ nI 16 ≤ nI b from nI_ge (by omega) (by decide)) ⟨hb.1.imp fun _ w => w.1, cB_stampAt hb hr (by omega) ⟨_, rfl, ifB (fun c => no ?_) (fun c => ⟨hb.1.imp fun _ w => w.1, cB_stampAt hb hs (by omega) ⟨_, rfl, ifB (fun c2 => no ?_) (fun c2 => ?_)⟩⟩)⟩⟩)
      · unfold bothL; simp [c]
      · unfold bothL; simp [c2]
      · rw [mk_or (by omega) (by unfold bothL; simp [c, c2]; omega), nI_1]
        exact ih
  exact loop 16 0 rfl
theorem cL_fit {K0 : Nat → Int32} (ha : 19 ≤ a) (hb : bkA h 15 n l q S) (hS : StK S) (hq : 2 ≤ q) (hF : h.2 a = zO 3 F) (hK0 : h.2 (a + 1) = zI 0 16 K0) (f11 : F 11 = .ref (a + 1)) (hr : r < 7) (hs : s < 7)
    (K : ∀ h' F' K', h'.2 a = zO 3 F' → h'.2 (a + 1) = zI 0 16 K' → zFr (fun z => z = a ∨ z = a + 1) h h' → lnR F' K' S l q r s → F' 0 = F 0 → F' 11 = .ref (a + 1) → Q none h') : zW (d + 3) m_Line_fit e 0 [.ref a, .ref 15, .int (nI r), .int (nI s), zD] [] h Q := by
  refine b_Line_fit_0 ⟨hb.1.imp fun _ w => w.1, cB_heardByBoth hb hr hs ⟨_, rfl, F, hF, ?_⟩⟩
  rintro h5 rfl
  refine ⟨_, zP_same _ _ _, ?_⟩
  rintro h7 rfl
  rw [zP_zP]
  refine ⟨_, zP_same _ _ _, ?_⟩
  rintro h9 rfl
  rw [zP_zP]
  have loop : ∀ k i (h1 : zH) (G : Nat → Value) (L : Nat → Bool) (sk K1 : Nat → Int32), i + k = 17 → h1.2 a = zO 3 G → h1.2 (a + 1) = zI 0 16 K1 → zFr (fun z => z = a ∨ z = a + 1) h h1 → G 0 = F 0 → G 11 = .ref (a + 1) → G 1 = .int (-1) → G 10 = .int (nI i) → G 12 = .int (nI (mkL L 16)) → PtL S r s L → cnL L 16 + i ≤ 16 → (∀ j, j < i → K1 j = sk j) → fitL S r s l q k L i sk = fR S l q r s →
      zW (d + 3) m_Line_fit e 23 [.ref a, .ref 15, .int (nI r), .int (nI s), .int (nI i)] [] h1 Q := by
    intro k
    induction k with
    | zero => intro i h1 G L sk K1 hk _ _ _ _ _ _ _ _ _ hcn; omega
    | succ k ih =>
      intro i h1 G L sk K1 hk hG hK1 hf g0 g11 g1 g10 g12 hL hcn hsk hfit
      have hb1 : bkA h1 15 n l q S := hb.fr hf (by omega) (by omega)
      refine b_Line_fit_23 (ifF (show ¬ nI 16 < nI i from nI_nlt (by omega) (by omega)) ⟨G, hG, _, g1, ifT rfl ⟨⟨_, hG⟩, cL_sumUp ha hb1 hG g12 hr hs (fun h2 F2 hF2 hf2 hls2 ho2 => ⟨rfl, ⟨_, hF2⟩, ?_⟩)⟩⟩)
      have hb2 : bkA h2 15 n l q S := hb1.fr hf2 (by omega) (by omega)
      have i12 : F2 12 = .int (nI (mkL L 16)) := (ho2 12 (by omega)).trans g12
      refine cL_findFarthest ha hb2 hF2 i12 hls2 hr hs (fun h3 F3 hF3 hf3 p8 p9 ho3 => ⟨rfl, ?_⟩)
      have hb3 : bkA h3 15 n l q S := hb2.fr hf3 (by omega) (by omega)
      have hls3 : lnS F3 S r s L := by
        obtain ⟨w2, w3, w4, w5, w6, w7⟩ := hls2
        exact ⟨(ho3 2 (by decide) (by decide)).trans w2, (ho3 3 (by decide) (by decide)).trans w3, (ho3 4 (by decide) (by decide)).trans w4, (ho3 5 (by decide) (by decide)).trans w5, (ho3 6 (by decide) (by decide)).trans w6, (ho3 7 (by decide) (by decide)).trans w7⟩
      obtain ⟨⟨B, hB, b0, b1, b2, b3⟩, -⟩ := id hb3
      refine ⟨B, hB, _, b1, B, hB, _, b2, ⟨_, hF3⟩, cL_judge hF3 hls3 p9 ⟨_, rfl, _, hF3, ?_⟩⟩
      rintro h15 rfl
      have hK3 : h3.2 (a + 1) = zI 0 16 K1 := by rw [hf3 _ (by omega), hf2 _ (by omega)]; exact hK1
      have hf13 : zFr (fun z => z = a ∨ z = a + 1) h h3 := (hf.trans (hf2.sub (fun _ w => Or.inl w))).trans (hf3.sub (fun _ w => Or.inl w))
      refine ⟨_, zP_same _ _ _, _, rfl, ifB (fun c => ⟨⟨_, zP_same _ _ _⟩, ?_⟩) (fun c => ?_)⟩
      · -- struck
        have hpos : 0 < cnL L 16 := by
          have := (lkd_m1 c).1
          rcases Nat.eq_zero_or_pos (cnL L 16) with w | w
          · exfalso
            apply this
            rw [w]
            exact Int32.lt_of_lt_of_le (show nI 0 < 2 by decide) hq
          · exact w
        rcases ff_ok hS hr hs hL 16 (Nat.le_refl _) with ⟨w, -⟩ | ⟨f, hf0, hLf, ef⟩
        · omega
        · have hcn2 : cnL (rmL L f) 16 + 1 = cnL L 16 := by
            rcases cnL_rm (L := L) (f := f) 16 with ⟨-, w⟩ | ⟨-, w⟩
            · omega
            · rw [if_pos hLf] at w; exact w
          rw [ef] at p8
          refine cL_strike (L := L) (c := i) (f := f) (K0 := K1) (zP_same _ _ _) ((zP_ne _ _ (by omega)).trans hK3) ((zU_ne _ _ (by decide)).trans p8) ((zU_ne _ _ (by decide)).trans ((ho3 10 (by decide) (by decide)).trans ((ho2 10 (by omega)).trans g10))) ((zU_ne _ _ (by decide)).trans ((ho3 11 (by decide) (by decide)).trans ((ho2 11 (by omega)).trans g11))) ((zU_ne _ _ (by decide)).trans ((ho3 12 (by decide) (by decide)).trans i12)) hf0 (by omega) (fun h4 F4 hF4 hK4 hf4 j10 j12 ho4 => ⟨rfl, ?_⟩)
          rw [nI_1]
          refine ih (i + 1) h4 F4 (rmL L f) (zU sk i (nI f)) _ (by omega) hF4 hK4 ((hf13.trans (zFr.put (Or.inl rfl))).trans hf4) ?_ ?_ ?_ j10 j12 (PtL_rm hL) (by omega) (fun j hj => ?_) ?_
          · rw [ho4 0 (by decide) (by decide), zU_ne _ _ (by decide), ho3 0 (by decide) (by decide), ho2 0 (by omega)]; exact g0
          · rw [ho4 11 (by decide) (by decide), zU_ne _ _ (by decide), ho3 11 (by decide) (by decide), ho2 11 (by omega)]; exact g11
          · rw [ho4 1 (by decide) (by decide), zU_same, c]
          · unfold zU
            split
            · rfl
            · exact hsk j (by omega)
          · rw [← hfit]
            have e1 : fitL S r s l q (k + 1) L i sk = if lkd S r s L l q = -1 then fitL S r s l q k (rmL L (ffL S r s L 16).1.toNatClampNeg) (i + 1) (zU sk i (ffL S r s L 16).1) else (lkd S r s L l q, L, i, sk) := rfl
            rw [e1, if_pos c, ef]
            dsimp only
            rw [nI_clamp (by omega)]
      · -- settled
        have e1 : fitL S r s l q (k + 1) L i sk = if lkd S r s L l q = -1 then fitL S r s l q k (rmL L (ffL S r s L 16).1.toNatClampNeg) (i + 1) (zU sk i (ffL S r s L 16).1) else (lkd S r s L l q, L, i, sk) := rfl
        rw [if_neg c] at e1
        rw [e1] at hfit
        have fin : Q none (zP h3 a (zO 3 (zU F3 1 (Value.int (lkd S r s L l q))))) := by
          refine K _ _ K1 (zP_same _ _ _) ((zP_ne _ _ (by omega)).trans hK3) (hf13.trans (zFr.put (Or.inl rfl))) ?_ ?_ ?_
          · unfold lnR
            rw [← hfit]
            dsimp only
            obtain ⟨w2, w3, w4, w5, w6, w7⟩ := hls3
            exact ⟨rfl, ⟨w2, w3, w4, w5, w6, w7⟩, p8, p9, (ho3 10 (by decide) (by decide)).trans ((ho2 10 (by omega)).trans g10), hsk⟩
          · rw [zU_ne _ _ (by decide), ho3 0 (by decide) (by decide), ho2 0 (by omega)]; exact g0
          · rw [zU_ne _ _ (by decide), ho3 11 (by decide) (by decide), ho2 11 (by omega)]; exact g11
        exact b_Line_fit_23 (ifB (fun _ => fin) (fun _ => ⟨_, zP_same _ _ _, _, rfl, ifF c fin⟩))
  have hc16 := cnL_le (bothL S r s) 16
  exact loop 17 0 _ _ (bothL S r s) sk0 K0 rfl (zP_same _ _ _) ((zP_ne _ _ (by omega)).trans hK0) (zFr.put (Or.inl rfl)) rfl f11 rfl rfl rfl bothL_pt (by omega) (fun j hj => by omega) rfl
/-- a FAR by DEN in 256ths, up -/
def ptU (f den : Int64) : Int64 := (256 * f + den - 1) / den
theorem cL_partsUp {f den : Int64} (hF : h.2 a = zO 3 F) (f7 : F 7 = .long den) (hd : den ≠ 0) (K : Q (some (.long (ptU f den))) h) : zW (d + 1) m_Line_partsUp e 0 [.ref a, .long f, zD] [] h Q :=
  b_Line_partsUp_0 ⟨F, hF, _, f7, ifF (fun w => hd (lc_eq.mp w)) ⟨F, hF, _, f7, F, hF, _, f7, hd, K⟩⟩
theorem cL_costOfGood {f den : Int64} (hF : h.2 a = zO 3 F) (f7 : F 7 = .long den) (f9 : F 9 = .long f) (hd : den ≠ 0) (K : Q (some (.int ((ptU f den).toInt32 + 1))) h) : zW (d + 2) m_Line_costOfGood e 0 [.ref a] [] h Q :=
  b_Line_costOfGood_0 ⟨F, hF, _, f9, ⟨F, hF⟩, cL_partsUp hF f7 hd ⟨_, rfl, K⟩⟩
end C
end
section
/-! Web: lines that are fitted when they are asked for -/
def wLn (h : zH) (S : Nat → Int32) (li le : Int32) (nw : Nat) (tt : Nat → Nat) (j : Nat) : Prop := ∃ F K0 fa, h.2 (19 + 2 * j) = zO 3 F ∧ h.2 (19 + 2 * j + 1) = zI 0 16 K0 ∧ F 0 = .int (nI fa) ∧ fa ≤ nw ∧ F 11 = .ref (19 + 2 * j + 1) ∧ (tt (j / 7) ≤ fa → tt (j % 7) ≤ fa → lnR F K0 S li le (j / 7) (j % 7))
def wOb (h : zH) (nw : Nat) : Prop := (∃ F, h.2 14 = zO 8 F ∧ F 0 = .ref 15 ∧ F 1 = .ref 17 ∧ F 2 = .ref 18 ∧ F 3 = .int (nI nw)) ∧ ∃ f, h.2 17 = zR 3 49 f ∧ ∀ j, j < 49 → f j = some (19 + 2 * j)
def wbA (h : zH) (S : Nat → Int32) (li le : Int32) (nw : Nat) : Prop := wOb h nw ∧ ∃ tt : Nat → Nat, (∃ t0, h.2 18 = zI 0 7 t0 ∧ ∀ r, r < 7 → t0 r = nI (tt r)) ∧ (∀ r, r < 7 → tt r ≤ nw) ∧ ∀ j, j < 49 → wLn h S li le nw tt j
theorem wLn.fr {A : Nat → Prop} {h h' : zH} {S : Nat → Int32} {li le : Int32} {nw : Nat} {tt : Nat → Nat} {j : Nat} (w : wLn h S li le nw tt j) (f : zFr A h h') (h1 : ¬ A (19 + 2 * j)) (h2 : ¬ A (19 + 2 * j + 1)) : wLn h' S li le nw tt j := by
  obtain ⟨F, K0, fa, w1, w2, w3⟩ := w
  exact ⟨F, K0, fa, by rw [f _ h1]; exact w1, by rw [f _ h2]; exact w2, w3⟩
theorem wbA.fr {A : Nat → Prop} {h h' : zH} {S : Nat → Int32} {li le : Int32} {nw : Nat} (w : wbA h S li le nw) (f : zFr A h h') (hA : ∀ z, A z → ¬ (z = 14 ∨ (17 ≤ z ∧ z < 117))) : wbA h' S li le nw := by
  obtain ⟨⟨⟨F, hF, q⟩, g, hg, hg2⟩, tt, ⟨t0, ht, ht2⟩, h3, h4⟩ := w
  refine ⟨⟨⟨F, by rw [f 14 (fun z => hA _ z (by omega))]; exact hF, q⟩, g, by rw [f 17 (fun z => hA _ z (by omega))]; exact hg, hg2⟩, tt, ⟨t0, by rw [f 18 (fun z => hA _ z (by omega))]; exact ht, ht2⟩, h3, fun j hj => (h4 j hj).fr f (fun z => hA _ z (by omega)) (fun z => hA _ z (by omega))⟩
section C
variable {d : Nat} {e : Nat × Nat} {h : zH} {Q : zQ} {n l q : Int32} {S : Nat → Int32} {nw : Nat} {r s : Nat}
theorem ix7 (r s : Nat) : nI r * 7 + nI s = nI (7 * r + s) := by
  rw [show (7 : Int32) = nI 7 from rfl, pk_mul, nI_add, Nat.mul_comm]
theorem cW_lineOf (hb : bkA h 15 n l q S) (hw : wbA h S l q nw) (hS : StK S) (hq : 2 ≤ q) (hnw : nw < 2 ^ 30) (hr : r < 7) (hs : s < 7)
    (K : ∀ h' F K0, wbA h' S l q nw → zFr (fun z => 19 ≤ z ∧ z < 117) h h' → h'.2 (19 + 2 * (7 * r + s)) = zO 3 F → h'.2 (19 + 2 * (7 * r + s) + 1) = zI 0 16 K0 → F 11 = .ref (19 + 2 * (7 * r + s) + 1) → lnR F K0 S l q r s → Q (some (.ref (19 + 2 * (7 * r + s)))) h') : zW (d + 4) m_Web_lineOf e 0 [.ref 14, .int (nI r), .int (nI s), zD] [] h Q := by
  obtain ⟨⟨⟨W, hW, w0, w1, w2, w3⟩, g, hg, hg2⟩, tt, ⟨t0, ht, ht2⟩, h3, h4⟩ := id hw
  have ej : (7 * r + s) / 7 = r ∧ (7 * r + s) % 7 = s := by omega
  obtain ⟨F, K0, fa, hF, hK0, f0, hfa, f11, hfr⟩ := h4 (7 * r + s) (by omega)
  rw [ej.1, ej.2] at hfr
  have hj : 7 * r + s < 49 := by omega
  have htr := h3 r hr
  have hts := h3 s hs
  refine b_Web_lineOf_0 ⟨W, hW, _, w1, 49, g, hg, ?_⟩
  rw [ix7]
  refine ⟨zIn_nI hj (by decide), 19 + 2 * (7 * r + s), by rw [nI_clamp (by omega)]; exact hg2 _ hj, F, hF, _, f0, W, hW, _, w2, 7, t0, ht, zIn_nI hr (by decide), ?_⟩
  rw [nI_clamp (by omega), ht2 r hr]
  have key : zW (d + 3) m_Line_fit h.1 0 [.ref (19 + 2 * (7 * r + s)), .ref 15, .int (nI r), .int (nI s), zD] [] h (fun r14 h15 => r14 = none ∧ (∃ F16, h15.2 14 = zO 8 F16 ∧ ∃ x17, F16 3 = Value.int x17 ∧ ((∃ F18, h15.2 (19 + 2 * (7 * r + s)) = zO 3 F18 ∧ ∀ h19, h19 = zP h15 (19 + 2 * (7 * r + s)) (zO 3 (zU F18 0 (Value.int x17))) → (Q (some (Value.ref (19 + 2 * (7 * r + s)))) h19))))) := by
    refine cL_fit (by omega) hb hS hq hF hK0 f11 hr hs (fun h1 F1 K1 hF1 hK1 hf1 hR1 hF10 hF111 => ⟨rfl, W, by rw [hf1 _ (by omega)]; exact hW, _, w3, F1, hF1, ?_⟩)
    rintro h19 rfl
    have hR2 : lnR (zU F1 0 (.int (nI nw))) K1 S l q r s := by
      obtain ⟨a1, ⟨a2, a3, a4, a5, a6, a7⟩, b3, b4, b5, b6⟩ := hR1
      exact ⟨a1, ⟨a2, a3, a4, a5, a6, a7⟩, b3, b4, b5, b6⟩
    have hfr2 : zFr (fun z => z = 19 + 2 * (7 * r + s) ∨ z = 19 + 2 * (7 * r + s) + 1) h (zP h1 (19 + 2 * (7 * r + s)) (zO 3 (zU F1 0 (.int (nI nw))))) := hf1.trans (zFr.put (Or.inl rfl))
    have hK2 : (zP h1 (19 + 2 * (7 * r + s)) (zO 3 (zU F1 0 (.int (nI nw))))).2 (19 + 2 * (7 * r + s) + 1) = zI 0 16 K1 := (zP_ne _ _ (by omega)).trans hK1
    refine K _ _ K1 ⟨⟨⟨W, by rw [hfr2 _ (by omega)]; exact hW, w0, w1, w2, w3⟩, g, by rw [hfr2 _ (by omega)]; exact hg, hg2⟩, tt, ⟨t0, by rw [hfr2 _ (by omega)]; exact ht, ht2⟩, h3, fun j hj2 => ?_⟩ (hfr2.sub (fun z hz => by omega)) (zP_same _ _ _) hK2 hF111 hR2
    by_cases ej2 : j = 7 * r + s
    · subst ej2
      exact ⟨_, K1, nw, zP_same _ _ _, hK2, rfl, Nat.le_refl _, hF111, fun _ _ => by rw [ej.1, ej.2]; exact hR2⟩
    · exact (h4 j hj2).fr hfr2 (by omega) (by omega)
  refine ifB (fun c => ⟨W, hW, _, w0, ⟨F, hF⟩, key⟩) (fun c => ⟨F, hF, _, f0, W, hW, _, w2, 7, t0, ht, zIn_nI hs (by decide), ?_⟩)
  rw [nI_clamp (by omega), ht2 s hs]
  refine ifB (fun c2 => ?_) (fun c2 => ⟨W, hW, _, w0, ⟨F, hF⟩, key⟩)
  have c1' := mt (nI_ltI (a := fa) (b := tt r) (by omega) (by omega)).mpr c
  have c2' := (nI_leI (a := tt s) (b := fa) (by omega) (by omega)).mp c2
  exact K h F K0 hw zFr.rf hF hK0 f11 (hfr (by omega) (by omega))
theorem cW_touch {S' : Nat → Int32} (hw : wbA h S l q nw) (hr : r < 7) (hnw : nw < 2 ^ 30) (hS' : ∀ r2, r2 < 7 → r2 ≠ r → rowE S S' r2) (K : ∀ h', wbA h' S' l q (nw + 1) → zFr (fun z => z = 14 ∨ z = 18) h h' → Q none h') : zW (d + 1) m_Web_touch e 0 [.ref 14, .int (nI r)] [] h Q := by
  obtain ⟨⟨⟨W, hW, w0, w1, w2, w3⟩, g, hg, hg2⟩, tt, ⟨t0, ht, ht2⟩, h3, h4⟩ := hw
  refine b_Web_touch_0 ⟨W, hW, _, w3, W, hW, ?_⟩
  rintro h4' rfl
  refine ⟨_, zP_same _ _ _, _, w2, _, zP_same _ _ _, _, rfl, 7, t0, (zP_ne _ _ (by decide)).trans ht, zIn_nI hr (by decide), ?_⟩
  rintro h11 rfl
  rw [nI_clamp (by omega), nI_1]
  have hf : zFr (fun z => z = 14 ∨ z = 18) h (zP (zP h 14 (zO 8 (zU W 3 (.int (nI (nw + 1)))))) 18 (zI 0 7 (zU t0 r (nI (nw + 1))))) := (zFr.put (Or.inl rfl)).trans (zFr.put (Or.inr rfl))
  refine K _ ⟨⟨⟨_, (zP_ne _ _ (by decide)).trans (zP_same _ _ _), w0, w1, w2, rfl⟩, g, by rw [hf _ (by decide)]; exact hg, hg2⟩, zU tt r (nw + 1), ⟨_, zP_same _ _ _, fun r2 h2 => ?_⟩, fun r2 h2 => ?_, fun j hj => ?_⟩ hf
  · unfold zU
    split
    · rfl
    · exact ht2 r2 h2
  · unfold zU
    split
    · exact Nat.le_refl _
    · have := h3 r2 h2; omega
  · obtain ⟨F, K0, fa, f1, f2, f3, f4, f5, f6⟩ := h4 j hj
    refine ⟨F, K0, fa, by rw [hf _ (by omega)]; exact f1, by rw [hf _ (by omega)]; exact f2, f3, by omega, f5, fun q1 q2 => ?_⟩
    by_cases e1 : j / 7 = r
    · rw [e1, zU_same] at q1; omega
    · by_cases e2 : j % 7 = r
      · rw [e2, zU_same] at q2; omega
      · rw [zU_ne _ _ e1] at q1
        rw [zU_ne _ _ e2] at q2
        exact lnR_e (hS' _ (by omega) e1) (hS' _ (by omega) e2) (f6 q1 q2)
theorem cW_touchAll {S' : Nat → Int32} {l' q' : Int32} (hw : wbA h S l q nw) (hnw : nw < 2 ^ 30) (K : ∀ h', wbA h' S' l' q' (nw + 1) → zFr (fun z => z = 14 ∨ z = 18) h h' → Q none h') : zW (d + 2) m_Web_touchAll e 0 [.ref 14] [] h Q := by
  obtain ⟨⟨⟨W, hW, w0, w1, w2, w3⟩, g, hg, hg2⟩, tt, ⟨t0, ht, ht2⟩, h3, h4⟩ := hw
  refine b_Web_touchAll_0 ⟨W, hW, _, w3, W, hW, ?_⟩
  rintro h4' rfl
  refine ⟨_, zP_same _ _ _, _, w2, _, zP_same _ _ _, _, rfl, ?_⟩
  refine cJ_fillI (n := 7) (f := t0) ((zP_ne _ _ (by decide)).trans ht) (by decide) (fun f' hf' => ⟨rfl, ?_⟩)
  rw [nI_1] at hf' ⊢
  have hf : zFr (fun z => z = 14 ∨ z = 18) h (zP (zP h 14 (zO 8 (zU W 3 (.int (nI (nw + 1)))))) 18 (zI 0 7 f')) := (zFr.put (Or.inl rfl)).trans (zFr.put (Or.inr rfl))
  refine K _ ⟨⟨⟨_, (zP_ne _ _ (by decide)).trans (zP_same _ _ _), w0, w1, w2, rfl⟩, g, by rw [hf _ (by decide)]; exact hg, hg2⟩, fun _ => nw + 1, ⟨_, zP_same _ _ _, fun r2 h2 => hf' r2 h2⟩, fun r2 h2 => Nat.le_refl _, fun j hj => ?_⟩ hf
  obtain ⟨F, K0, fa, f1, f2, f3, f4, f5, f6⟩ := h4 j hj
  exact ⟨F, K0, fa, by rw [hf _ (by omega)]; exact f1, by rw [hf _ (by omega)]; exact f2, f3, by omega, f5, fun q1 _ => absurd (show nw + 1 ≤ fa from q1) (by omega)⟩
/-- r is not s, and the line from r to s is of a kind -/
def kdB (S : Nat → Int32) (li le k : Int32) (r s : Nat) : Bool := decide (r ≠ s) && decide ((fR S li le r s).1 = k)
def cnP (p : Nat → Nat → Bool) (N : Nat) : Nat → Nat
  | 0 => 0
  | r + 1 => cnP p N r + cnL (p r) N
theorem cW_isKind {k : Int32} (hb : bkA h 15 n l q S) (hw : wbA h S l q nw) (hS : StK S) (hq : 2 ≤ q) (hnw : nw < 2 ^ 30) (hr : r < 7) (hs : s < 7)
    (K1 : kdB S l q k r s = true → ∀ h', wbA h' S l q nw → zFr (fun z => 19 ≤ z ∧ z < 117) h h' → Q (some (.int 1)) h') (K0 : kdB S l q k r s = false → ∀ h', wbA h' S l q nw → zFr (fun z => 19 ≤ z ∧ z < 117) h h' → Q (some (.int 0)) h') : zW (d + 5) m_Web_isKind e 0 [.ref 14, .int (nI r), .int (nI s), .int k] [] h Q := by
  refine b_Web_isKind_0 (ifB (fun c => ⟨by decide, K0 ?_ h hw zFr.rf⟩) (fun c => ⟨hw.1.1.imp fun _ w => w.1, cW_lineOf hb hw hS hq hnw hr hs (fun h' F G hw' hf hF hG f11 hR => ⟨_, rfl, F, hF, _, hR.1, ifB (fun c2 => ⟨by decide, K1 ?_ h' hw' hf⟩) (fun c2 => ⟨by decide, K0 ?_ h' hw' hf⟩)⟩)⟩))
  · have := (nI_eq (by omega) (by omega)).mp c
    unfold kdB; simp [this]
  · have : r ≠ s := fun w => c (by rw [w])
    unfold kdB; simp [this, c2]
  · unfold kdB; simp [c2]
theorem cW_linesOfKind {N : Nat} {k : Int32} (hb : bkA h 15 (nI N) l q S) (hw : wbA h S l q nw) (hS : StK S) (hq : 2 ≤ q) (hnw : nw < 2 ^ 30) (hN : N ≤ 7)
    (K : ∀ h', wbA h' S l q nw → zFr (fun z => 19 ≤ z ∧ z < 117) h h' → Q (some (.int (nI (cnP (kdB S l q k) N N)))) h') : zW (d + 6) m_Web_linesOfKind e 0 [.ref 14, .int k, zD, zD, zD] [] h Q := by
  refine b_Web_linesOfKind_0 ?_
  have inner : ∀ j r s (h1 : zH), s + j = N → r < N → wbA h1 S l q nw → zFr (fun z => 19 ≤ z ∧ z < 117) h h1 →
      (∀ h2, wbA h2 S l q nw → zFr (fun z => 19 ≤ z ∧ z < 117) h h2 → zW (d + 6) m_Web_linesOfKind e 4 [.ref 14, .int k, .int (nI (cnP (kdB S l q k) N (r + 1))), .int (nI (r + 1)), zD] [] h2 Q) →
      zW (d + 6) m_Web_linesOfKind e 18 [.ref 14, .int k, .int (nI (cnP (kdB S l q k) N r + cnL (kdB S l q k r) s)), .int (nI r), .int (nI s)] [] h1 Q := by
    intro j
    induction j with
    | zero =>
      intro r s h1 hj hr hw1 hf1 Kn
      have : s = N := by omega
      subst this
      have hb1 := hb.fr hf1 (by omega) (by omega)
      obtain ⟨⟨⟨W, hW, w0, -⟩, -⟩, -⟩ := id hw1
      obtain ⟨⟨B, hB, b0, -⟩, -⟩ := id hb1
      refine b_Web_linesOfKind_18 ⟨W, hW, _, w0, B, hB, _, b0, ifT (Int32.le_refl _) ?_⟩
      rw [nI_1]
      exact Kn h1 hw1 hf1
    | succ j ih =>
      intro r s h1 hj hr hw1 hf1 Kn
      have hb1 := hb.fr hf1 (by omega) (by omega)
      obtain ⟨⟨⟨W, hW, w0, -⟩, -⟩, -⟩ := id hw1
      obtain ⟨⟨B, hB, b0, -⟩, -⟩ := id hb1
      refine b_Web_linesOfKind_18 ⟨W, hW, _, w0, B, hB, _, b0, ifF (nI_ge (by omega) (by omega)) ⟨⟨W, hW⟩, cW_isKind hb1 hw1 hS hq hnw (by omega) (by omega) (fun c h2 hw2 hf2 => ⟨_, rfl, ifF (by decide) ?_⟩) (fun c h2 hw2 hf2 => ⟨_, rfl, ifT rfl ?_⟩)⟩⟩
      · have := ih r (s + 1) h2 (by omega) hr hw2 (hf1.trans hf2) Kn
        rw [show cnL (kdB S l q k r) (s + 1) = cnL (kdB S l q k r) s + 1 by show _ + (if kdB S l q k r s = true then 1 else 0) = _; rw [c]; rfl] at this
        rw [nI_1, nI_1]
        exact this
      · have := ih r (s + 1) h2 (by omega) hr hw2 (hf1.trans hf2) Kn
        rw [show cnL (kdB S l q k r) (s + 1) = cnL (kdB S l q k r) s by show _ + (if kdB S l q k r s = true then 1 else 0) = _; rw [c]; rfl] at this
        rw [nI_1]
        exact this
  have outer : ∀ j r (h1 : zH), r + j = N → wbA h1 S l q nw → zFr (fun z => 19 ≤ z ∧ z < 117) h h1 → zW (d + 6) m_Web_linesOfKind e 4 [.ref 14, .int k, .int (nI (cnP (kdB S l q k) N r)), .int (nI r), zD] [] h1 Q := by
    intro j
    induction j with
    | zero =>
      intro r h1 hj hw1 hf1
      have : r = N := by omega
      subst this
      have hb1 := hb.fr hf1 (by omega) (by omega)
      obtain ⟨⟨⟨W, hW, w0, -⟩, -⟩, -⟩ := id hw1
      obtain ⟨⟨B, hB, b0, -⟩, -⟩ := id hb1
      exact b_Web_linesOfKind_4 ⟨W, hW, _, w0, B, hB, _, b0, ifT (Int32.le_refl _) (K h1 hw1 hf1)⟩
    | succ j ih =>
      intro r h1 hj hw1 hf1
      have hb1 := hb.fr hf1 (by omega) (by omega)
      obtain ⟨⟨⟨W, hW, w0, -⟩, -⟩, -⟩ := id hw1
      obtain ⟨⟨B, hB, b0, -⟩, -⟩ := id hb1
      exact b_Web_linesOfKind_4 ⟨W, hW, _, w0, B, hB, _, b0, ifF (nI_ge (by omega) (by omega)) (inner N r 0 h1 (by omega) (by omega) hw1 hf1 (fun h2 hw2 hf2 => ih (r + 1) h2 (by omega) hw2 hf2))⟩
  exact outer N 0 h (by omega) hw zFr.rf
end C
section C2
variable {d : Nat} {e : Nat × Nat} {h : zH} {Q : zQ} {l q : Int32} {S : Nat → Int32} {nw N : Nat} {r s : Nat}
theorem cnL_s1 {p : Nat → Bool} {n : Nat} (c : p n = true) : cnL p (n + 1) = cnL p n + 1 := by
  show _ + (if p n = true then 1 else 0) = _
  rw [c]; rfl
theorem cnL_s0 {p : Nat → Bool} {n : Nat} (c : p n = false) : cnL p (n + 1) = cnL p n := by
  show _ + (if p n = true then 1 else 0) = _
  rw [c]; rfl
theorem cW_goodLinesFrom (hb : bkA h 15 (nI N) l q S) (hw : wbA h S l q nw) (hS : StK S) (hq : 2 ≤ q) (hnw : nw < 2 ^ 30) (hN : N ≤ 7) (hr : r < 7)
    (K : ∀ h', wbA h' S l q nw → zFr (fun z => 19 ≤ z ∧ z < 117) h h' → Q (some (.int (nI (cnL (kdB S l q 2 r) N)))) h') : zW (d + 6) m_Web_goodLinesFrom e 0 [.ref 14, .int (nI r), zD, zD] [] h Q := by
  refine b_Web_goodLinesFrom_0 ?_
  have key : ∀ j s (h1 : zH), s + j = N → wbA h1 S l q nw → zFr (fun z => 19 ≤ z ∧ z < 117) h h1 → zW (d + 6) m_Web_goodLinesFrom e 4 [.ref 14, .int (nI r), .int (nI (cnL (kdB S l q 2 r) s)), .int (nI s)] [] h1 Q := by
    intro j
    induction j with
    | zero =>
      intro s h1 hj hw1 hf1
      have : s = N := by omega
      subst this
      have hb1 := hb.fr hf1 (by omega) (by omega)
      obtain ⟨⟨⟨W, hW, w0, -⟩, -⟩, -⟩ := id hw1
      obtain ⟨⟨B, hB, b0, -⟩, -⟩ := id hb1
      exact b_Web_goodLinesFrom_4 ⟨W, hW, _, w0, B, hB, _, b0, ifT (Int32.le_refl _) (K h1 hw1 hf1)⟩
    | succ j ih =>
      intro s h1 hj hw1 hf1
      have hb1 := hb.fr hf1 (by omega) (by omega)
      obtain ⟨⟨⟨W, hW, w0, -⟩, -⟩, -⟩ := id hw1
      obtain ⟨⟨B, hB, b0, -⟩, -⟩ := id hb1
      refine b_Web_goodLinesFrom_4 ⟨W, hW, _, w0, B, hB, _, b0, ifF (nI_ge (by omega) (by omega)) ⟨⟨W, hW⟩, cW_isKind hb1 hw1 hS hq hnw hr (by omega) (fun c h2 hw2 hf2 => ⟨_, rfl, ifF (by decide) ?_⟩) (fun c h2 hw2 hf2 => ⟨_, rfl, ifT rfl ?_⟩)⟩⟩
      · have := ih (s + 1) h2 (by omega) hw2 (hf1.trans hf2)
        rw [cnL_s1 c] at this
        rw [nI_1, nI_1]
        exact this
      · have := ih (s + 1) h2 (by omega) hw2 (hf1.trans hf2)
        rw [cnL_s0 c] at this
        rw [nI_1]
        exact this
  exact key N 0 h (by omega) hw zFr.rf
theorem cW_goodLinesTo (hb : bkA h 15 (nI N) l q S) (hw : wbA h S l q nw) (hS : StK S) (hq : 2 ≤ q) (hnw : nw < 2 ^ 30) (hN : N ≤ 7) (hr : r < 7)
    (K : ∀ h', wbA h' S l q nw → zFr (fun z => 19 ≤ z ∧ z < 117) h h' → Q (some (.int (nI (cnL (fun s => kdB S l q 2 s r) N)))) h') : zW (d + 6) m_Web_goodLinesTo e 0 [.ref 14, .int (nI r), zD, zD] [] h Q := by
  refine b_Web_goodLinesTo_0 ?_
  have key : ∀ j s (h1 : zH), s + j = N → wbA h1 S l q nw → zFr (fun z => 19 ≤ z ∧ z < 117) h h1 → zW (d + 6) m_Web_goodLinesTo e 4 [.ref 14, .int (nI r), .int (nI (cnL (fun s => kdB S l q 2 s r) s)), .int (nI s)] [] h1 Q := by
    intro j
    induction j with
    | zero =>
      intro s h1 hj hw1 hf1
      have : s = N := by omega
      subst this
      have hb1 := hb.fr hf1 (by omega) (by omega)
      obtain ⟨⟨⟨W, hW, w0, -⟩, -⟩, -⟩ := id hw1
      obtain ⟨⟨B, hB, b0, -⟩, -⟩ := id hb1
      exact b_Web_goodLinesTo_4 ⟨W, hW, _, w0, B, hB, _, b0, ifT (Int32.le_refl _) (K h1 hw1 hf1)⟩
    | succ j ih =>
      intro s h1 hj hw1 hf1
      have hb1 := hb.fr hf1 (by omega) (by omega)
      obtain ⟨⟨⟨W, hW, w0, -⟩, -⟩, -⟩ := id hw1
      obtain ⟨⟨B, hB, b0, -⟩, -⟩ := id hb1
      refine b_Web_goodLinesTo_4 ⟨W, hW, _, w0, B, hB, _, b0, ifF (nI_ge (by omega) (by omega)) ⟨⟨W, hW⟩, cW_isKind hb1 hw1 hS hq hnw (by omega) hr (fun c h2 hw2 hf2 => ⟨_, rfl, ifF (by decide) ?_⟩) (fun c h2 hw2 hf2 => ⟨_, rfl, ifT rfl ?_⟩)⟩⟩
      · have := ih (s + 1) h2 (by omega) hw2 (hf1.trans hf2)
        rw [cnL_s1 (p := fun s => kdB S l q 2 s r) c] at this
        rw [nI_1, nI_1]
        exact this
      · have := ih (s + 1) h2 (by omega) hw2 (hf1.trans hf2)
        rw [cnL_s0 (p := fun s => kdB S l q 2 s r) c] at this
        rw [nI_1]
        exact this
  exact key N 0 h (by omega) hw zFr.rf
/-- how many stamps the line from r to s has struck out -/
def skN (S : Nat → Int32) (li le : Int32) (r s : Nat) : Nat := if r = s then 0 else (fR S li le r s).2.2.1
def suN (f : Nat → Nat) : Nat → Nat
  | 0 => 0
  | n + 1 => suN f n + f n
def suP (f : Nat → Nat → Nat) (N : Nat) : Nat → Nat
  | 0 => 0
  | r + 1 => suP f N r + suN (f r) N
theorem cW_allStrikes (hb : bkA h 15 (nI N) l q S) (hw : wbA h S l q nw) (hS : StK S) (hq : 2 ≤ q) (hnw : nw < 2 ^ 30) (hN : N ≤ 7)
    (K : ∀ h', wbA h' S l q nw → zFr (fun z => 19 ≤ z ∧ z < 117) h h' → Q (some (.int (nI (suP (skN S l q) N N)))) h') : zW (d + 5) m_Web_allStrikes e 0 [.ref 14, zD, zD, zD] [] h Q := by
  refine b_Web_allStrikes_0 ?_
  have inner : ∀ j r s (h1 : zH), s + j = N → r < N → wbA h1 S l q nw → zFr (fun z => 19 ≤ z ∧ z < 117) h h1 →
      (∀ h2, wbA h2 S l q nw → zFr (fun z => 19 ≤ z ∧ z < 117) h h2 → zW (d + 5) m_Web_allStrikes e 4 [.ref 14, .int (nI (suP (skN S l q) N (r + 1))), .int (nI (r + 1)), zD] [] h2 Q) →
      zW (d + 5) m_Web_allStrikes e 17 [.ref 14, .int (nI (suP (skN S l q) N r + suN (skN S l q r) s)), .int (nI r), .int (nI s)] [] h1 Q := by
    intro j
    induction j with
    | zero =>
      intro r s h1 hj hr hw1 hf1 Kn
      have : s = N := by omega
      subst this
      have hb1 := hb.fr hf1 (by omega) (by omega)
      obtain ⟨⟨⟨W, hW, w0, -⟩, -⟩, -⟩ := id hw1
      obtain ⟨⟨B, hB, b0, -⟩, -⟩ := id hb1
      refine b_Web_allStrikes_17 ⟨W, hW, _, w0, B, hB, _, b0, ifT (Int32.le_refl _) ?_⟩
      rw [nI_1]
      exact Kn h1 hw1 hf1
    | succ j ih =>
      intro r s h1 hj hr hw1 hf1 Kn
      have hb1 := hb.fr hf1 (by omega) (by omega)
      obtain ⟨⟨⟨W, hW, w0, -⟩, -⟩, -⟩ := id hw1
      obtain ⟨⟨B, hB, b0, -⟩, -⟩ := id hb1
      refine b_Web_allStrikes_17 ⟨W, hW, _, w0, B, hB, _, b0, ifF (nI_ge (by omega) (by omega)) (ifB (fun c => ?_) (fun c => ⟨⟨W, hW⟩, cW_lineOf hb1 hw1 hS hq hnw (by omega) (by omega) (fun h2 F G hw2 hf2 hF hG f11 hR => ⟨_, rfl, F, hF, _, hR.2.2.2.2.1, ?_⟩)⟩))⟩
      · have := ih r (s + 1) h1 (by omega) hr hw1 hf1 Kn
        rw [show suN (skN S l q r) (s + 1) = suN (skN S l q r) s by show _ + skN S l q r s = _; unfold skN; rw [if_pos ((nI_eq (by omega) (by omega)).mp c)]; rfl] at this
        rw [nI_1]
        exact this
      · have := ih r (s + 1) h2 (by omega) hr hw2 (hf1.trans hf2) Kn
        rw [show suN (skN S l q r) (s + 1) = suN (skN S l q r) s + (fR S l q r s).2.2.1 by show _ + skN S l q r s = _; unfold skN; rw [if_neg (fun w => c (by rw [w]))]] at this
        rw [← Nat.add_assoc] at this
        rw [nI_1, nI_add]
        exact this
  have outer : ∀ j r (h1 : zH), r + j = N → wbA h1 S l q nw → zFr (fun z => 19 ≤ z ∧ z < 117) h h1 → zW (d + 5) m_Web_allStrikes e 4 [.ref 14, .int (nI (suP (skN S l q) N r)), .int (nI r), zD] [] h1 Q := by
    intro j
    induction j with
    | zero =>
      intro r h1 hj hw1 hf1
      have : r = N := by omega
      subst this
      have hb1 := hb.fr hf1 (by omega) (by omega)
      obtain ⟨⟨⟨W, hW, w0, -⟩, -⟩, -⟩ := id hw1
      obtain ⟨⟨B, hB, b0, -⟩, -⟩ := id hb1
      exact b_Web_allStrikes_4 ⟨W, hW, _, w0, B, hB, _, b0, ifT (Int32.le_refl _) (K h1 hw1 hf1)⟩
    | succ j ih =>
      intro r h1 hj hw1 hf1
      have hb1 := hb.fr hf1 (by omega) (by omega)
      obtain ⟨⟨⟨W, hW, w0, -⟩, -⟩, -⟩ := id hw1
      obtain ⟨⟨B, hB, b0, -⟩, -⟩ := id hb1
      exact b_Web_allStrikes_4 ⟨W, hW, _, w0, B, hB, _, b0, ifF (nI_ge (by omega) (by omega)) (inner N r 0 h1 (by omega) (by omega) hw1 hf1 (fun h2 hw2 hf2 => ih (r + 1) h2 (by omega) hw2 hf2))⟩
  exact outer N 0 h (by omega) hw zFr.rf
end C2
end
section
/-! Least weights: rounds of relaxing, and that six of them are enough -/
def bI : Nat := 10000000
def imp (w : Nat → Nat → Nat) (D : Nat → Nat) (r s : Nat) : Bool := decide (w r s ≠ 0) && decide (w r s + D s < D r)
def rlx (w : Nat → Nat → Nat) (D : Nat → Nat) (r s : Nat) : Nat → Nat := if imp w D r s = true then zU D r (w r s + D s) else D
def rlR (w : Nat → Nat → Nat) (r : Nat) (D : Nat → Nat) : Nat → (Nat → Nat)
  | 0 => D
  | s + 1 => rlx w (rlR w r D s) r s
def flR (w : Nat → Nat → Nat) (r : Nat) (D : Nat → Nat) : Nat → Bool
  | 0 => false
  | s + 1 => flR w r D s || imp w (rlR w r D s) r s
def rlA (w : Nat → Nat → Nat) (N : Nat) (D : Nat → Nat) : Nat → (Nat → Nat)
  | 0 => D
  | r + 1 => rlR w r (rlA w N D r) N
def flA (w : Nat → Nat → Nat) (N : Nat) (D : Nat → Nat) : Nat → Bool
  | 0 => false
  | r + 1 => flA w N D r || flR w r (rlA w N D r) N
def bfD (w : Nat → Nat → Nat) (N a : Nat) : Nat → (Nat → Nat)
  | 0 => zU (fun _ => bI) a 0
  | k + 1 => rlA w N (bfD w N a k) N
section P
variable {w : Nat → Nat → Nat} {D : Nat → Nat} {N a r s : Nat}
theorem imp_t (h : imp w D r s = true) : w r s ≠ 0 ∧ w r s + D s < D r := by
  unfold imp at h
  simp only [Bool.and_eq_true, decide_eq_true_eq] at h
  exact h
theorem imp_f (h : imp w D r s = false) (hw : w r s ≠ 0) : D r ≤ w r s + D s := by
  unfold imp at h
  simp only [Bool.and_eq_false_iff, decide_eq_false_iff_not] at h
  omega
theorem rlx_t (h : imp w D r s = true) : rlx w D r s = zU D r (w r s + D s) := if_pos h
theorem rlx_f (h : imp w D r s = false) : rlx w D r s = D := if_neg (by rw [h]; exact Bool.false_ne_true)
theorem flR_f : ∀ n, flR w r D n = false → rlR w r D n = D ∧ ∀ s, s < n → imp w D r s = false
  | 0, _ => ⟨rfl, fun s hs => absurd hs (Nat.not_lt_zero s)⟩
  | n + 1, h => by
    have h' : (flR w r D n || imp w (rlR w r D n) r n) = false := h
    rw [Bool.or_eq_false_iff] at h'
    obtain ⟨e1, e2⟩ := flR_f n h'.1
    have e3 := h'.2
    rw [e1] at e3
    refine ⟨?_, fun s hs => ?_⟩
    · show rlx w (rlR w r D n) r n = D
      rw [e1, rlx_f e3]
    · by_cases e : s = n
      · rw [e]; exact e3
      · exact e2 s (by omega)
theorem flA_f : ∀ n, flA w N D n = false → rlA w N D n = D ∧ ∀ r, r < n → ∀ s, s < N → imp w D r s = false
  | 0, _ => ⟨rfl, fun s hs => absurd hs (Nat.not_lt_zero s)⟩
  | n + 1, h => by
    have h' : (flA w N D n || flR w n (rlA w N D n) N) = false := h
    rw [Bool.or_eq_false_iff] at h'
    obtain ⟨e1, e2⟩ := flA_f n h'.1
    have e3 := h'.2
    rw [e1] at e3
    obtain ⟨f1, f2⟩ := flR_f N e3
    refine ⟨?_, fun r hr => ?_⟩
    · show rlR w n (rlA w N D n) N = D
      rw [e1, f1]
    · by_cases e : r = n
      · rw [e]; exact f2
      · exact e2 r (by omega)
theorem flR_i (n : Nat) (h : ∀ s, s < n → imp w D r s = false) : flR w r D n = false ∧ rlR w r D n = D := by
  induction n with
  | zero => exact ⟨rfl, rfl⟩
  | succ n ih =>
    obtain ⟨e1, e2⟩ := ih (fun s hs => h s (by omega))
    have e3 := h n (by omega)
    refine ⟨?_, ?_⟩
    · show (flR w r D n || imp w (rlR w r D n) r n) = false
      rw [e1, e2, e3]; rfl
    · show rlx w (rlR w r D n) r n = D
      rw [e2, rlx_f e3]
theorem flA_i (n : Nat) (h : ∀ r, r < n → ∀ s, s < N → imp w D r s = false) : flA w N D n = false ∧ rlA w N D n = D := by
  induction n with
  | zero => exact ⟨rfl, rfl⟩
  | succ n ih =>
    obtain ⟨e1, e2⟩ := ih (fun s hs => h s (by omega))
    obtain ⟨e3, e4⟩ := flR_i (w := w) (D := D) (r := n) N (h n (by omega))
    refine ⟨?_, ?_⟩
    · show (flA w N D n || flR w n (rlA w N D n) N) = false
      rw [e1, e2, e3]; rfl
    · show rlR w n (rlA w N D n) N = D
      rw [e2, e4]
theorem rlx_le (x : Nat) : rlx w D r s x ≤ D x := by
  unfold rlx
  split
  · rename_i c
    unfold zU
    split
    · rename_i e; subst e; exact Nat.le_of_lt (imp_t c).2
    · exact Nat.le_refl _
  · exact Nat.le_refl _
theorem rlR_le (x : Nat) : ∀ n, rlR w r D n x ≤ D x
  | 0 => Nat.le_refl _
  | n + 1 => Nat.le_trans (rlx_le x) (rlR_le x n)
/-- a property of D that relaxing keeps, a whole round keeps -/
theorem rlR_keep {X : (Nat → Nat) → Prop} (hX : ∀ D r s, r < N → s < N → X D → X (rlx w D r s)) (hr : r < N) (h : X D) : ∀ n, n ≤ N → X (rlR w r D n)
  | 0, _ => h
  | n + 1, hn => hX _ r n hr (by omega) (rlR_keep hX hr h n (by omega))
theorem rlA_keep {X : (Nat → Nat) → Prop} (hX : ∀ D r s, r < N → s < N → X D → X (rlx w D r s)) (h : X D) : ∀ n, n ≤ N → X (rlA w N D n)
  | 0, _ => h
  | n + 1, hn => rlR_keep hX (by omega) (rlA_keep hX h n (by omega)) N (Nat.le_refl _)
theorem bfD_keep {X : (Nat → Nat) → Prop} (hX : ∀ D r s, r < N → s < N → X D → X (rlx w D r s)) (h : X (zU (fun _ => bI) a 0)) : ∀ k, X (bfD w N a k)
  | 0 => h
  | k + 1 => rlA_keep hX (bfD_keep hX h k) N (Nat.le_refl _)
/-- settled clocks -/
def Stl (w : Nat → Nat → Nat) (N : Nat) (T : Nat → Bool) (V : Nat → Nat) (M : Nat) (D : Nat → Nat) : Prop :=
  (∀ t, T t = true → t < N ∧ D t = V t ∧ V t ≤ M) ∧ (∀ r, r < N → T r = false → M ≤ D r) ∧
  (∀ s r, T s = true → r < N → T r = false → w r s ≠ 0 → M ≤ w r s + V s) ∧ (∀ s r, T s = true → T r = true → w r s ≠ 0 → V r ≤ w r s + V s)
theorem stl_rlx {T : Nat → Bool} {V : Nat → Nat} {M : Nat} (hr : r < N) (hs : s < N) (h : Stl w N T V M D) : Stl w N T V M (rlx w D r s) := by
  by_cases c : imp w D r s = true
  · rw [rlx_t c]
    obtain ⟨h1, h2, h3, h4⟩ := h
    obtain ⟨c1, c2⟩ := imp_t c
    have hT : T r = false := by
      cases e : T r with
      | false => rfl
      | true =>
        have a1 := h1 r e
        cases e2 : T s with
        | true => have a2 := h1 s e2; have a3 := h4 s r e2 e c1; omega
        | false => have a2 := h2 s hs e2; omega
    refine ⟨fun t ht => ?_, fun r' hr' hT' => ?_, h3, h4⟩
    · have : t ≠ r := fun e => by rw [e, hT] at ht; exact absurd ht (by decide)
      rw [zU_ne _ _ this]
      exact h1 t ht
    · by_cases e : r' = r
      · rw [e, zU_same]
        cases e2 : T s with
        | true => have a2 := h1 s e2; have a3 := h3 s r e2 hr hT c1; omega
        | false => have a2 := h2 s hs e2; omega
      · rw [zU_ne _ _ e]; exact h2 r' hr' hT'
  · rw [rlx_f (by simpa using c)]; exact h
theorem stl_R {T : Nat → Bool} {V : Nat → Nat} {M : Nat} (hr : r < N) (h : Stl w N T V M D) : ∀ n, n ≤ N → ∀ s, s < n → T s = true → w r s ≠ 0 → rlR w r D n r ≤ w r s + V s
  | 0, _, s, hs, _, _ => absurd hs (Nat.not_lt_zero s)
  | n + 1, hn, s, hs, hT, hw => by
    by_cases e : s = n
    · subst e
      have hk := rlR_keep (w := w) (X := Stl w N T V M) (fun _ _ _ => stl_rlx) hr h s (by omega)
      show rlx w (rlR w r D s) r s r ≤ _
      have e1 := (hk.1 s hT).2.1
      by_cases c : imp w (rlR w r D s) r s = true
      · rw [rlx_t c, zU_same, e1]; exact Nat.le_refl _
      · have c' : imp w (rlR w r D s) r s = false := by simpa using c
        rw [rlx_f c', ← e1]
        exact imp_f c' hw
    · exact Nat.le_trans (rlx_le r) (stl_R hr h n (by omega) s (by omega) hT hw)
theorem stl_A {T : Nat → Bool} {V : Nat → Nat} {M : Nat} (h : Stl w N T V M D) : ∀ n, n ≤ N → ∀ r, r < n → ∀ s, T s = true → w r s ≠ 0 → rlA w N D n r ≤ w r s + V s
  | 0, _, s, hs, _, _, _ => absurd hs (Nat.not_lt_zero s)
  | n + 1, hn, r, hr, s, hT, hw => by
    have hk := rlA_keep (w := w) (X := Stl w N T V M) (fun _ _ _ => stl_rlx) h n (by omega)
    by_cases e : r = n
    · subst e
      exact stl_R (by omega) hk N (Nat.le_refl _) s (hk.1 s hT).1 hT hw
    · exact Nat.le_trans (rlR_le r N) (stl_A h n (by omega) r (by omega) s hT hw)
theorem exMin (f : Nat → Nat) (P : Nat → Prop) : ∀ v m, f m ≤ v → P m → ∃ m, P m ∧ ∀ r, P r → f m ≤ f r
  | 0, m, h, hp => ⟨m, hp, fun r _ => by omega⟩
  | v + 1, m, h, hp => by
    by_cases c : ∃ r, P r ∧ f r < f m
    · obtain ⟨r, hr, hr2⟩ := c
      exact exMin f P v r (by omega) hr
    · refine ⟨m, hp, fun r hr => ?_⟩
      by_cases c2 : f r < f m
      · exact absurd ⟨r, hr, c2⟩ c
      · omega
theorem cnL_full {T : Nat → Bool} : ∀ n, n ≤ cnL T n → ∀ r, r < n → T r = true
  | 0, _, r, hr => absurd hr (Nat.not_lt_zero r)
  | n + 1, h, r, hr => by
    have h1 := cnL_le T n
    have h2 : n + 1 ≤ cnL T n + (if T n = true then 1 else 0) := h
    by_cases c : T n = true
    · rw [if_pos c] at h2
      by_cases e : r = n
      · rw [e]; exact c
      · exact cnL_full n (by omega) r (by omega)
    · rw [if_neg c] at h2; omega
theorem cnL_put {T : Nat → Bool} {m : Nat} (hm : T m = false) : ∀ n, cnL (zU T m true) n = cnL T n + (if m < n then 1 else 0)
  | 0 => rfl
  | n + 1 => by
    show cnL (zU T m true) n + (if zU T m true n = true then 1 else 0) = cnL T n + (if T n = true then 1 else 0) + _
    rw [cnL_put hm n]
    by_cases e : n = m
    · subst e
      rw [zU_same, hm]
      simp
    · rw [zU_ne _ _ e]
      by_cases c : m < n
      · rw [if_pos c, if_pos (by omega : m < n + 1)]; omega
      · rw [if_neg c, if_neg (by omega : ¬ m < n + 1)]; omega
theorem stl_grow {T : Nat → Bool} {V : Nat → Nat} {M : Nat} (h : Stl w N T V M D) (hN : cnL T N < N) : ∃ T' V' M', Stl w N T' V' M' (rlA w N D N) ∧ cnL T' N = cnL T N + 1 := by
  have hk := rlA_keep (w := w) (X := Stl w N T V M) (fun _ _ _ => stl_rlx) h N (Nat.le_refl _)
  have hA := stl_A h N (Nat.le_refl _)
  generalize rlA w N D N = E at hk hA
  have hex : ∃ r, r < N ∧ T r = false := by
    by_cases c : ∃ r, r < N ∧ T r = false
    · exact c
    · exfalso
      have : cnL T N = N := by
        have : ∀ n, n ≤ N → cnL T n = n := by
          intro n
          induction n with
          | zero => intro _; rfl
          | succ n ih =>
            intro hn
            have : T n = true := by
              cases e : T n with
              | true => rfl
              | false => exact absurd ⟨n, by omega, e⟩ c
            rw [cnL_s1 this, ih (by omega)]
        exact this N (Nat.le_refl _)
      omega
  obtain ⟨r0, hr0⟩ := hex
  obtain ⟨m, ⟨hm, hmT⟩, hmin⟩ := exMin E (fun r => r < N ∧ T r = false) (E r0) r0 (Nat.le_refl _) hr0
  obtain ⟨h1, h2, h3, h4⟩ := hk
  refine ⟨zU T m true, zU V m (E m), E m, ⟨fun t ht => ?_, fun r hr hT => ?_, fun s r hs hr hT hw => ?_, fun s r hs hT hw => ?_⟩, ?_⟩
  · by_cases e : t = m
    · subst e; rw [zU_same]; exact ⟨hm, rfl, Nat.le_refl _⟩
    · rw [zU_ne _ _ e] at ht ⊢
      have := h1 t ht
      have := h2 m hm hmT
      exact ⟨by omega, by omega, by omega⟩
  · have e : r ≠ m := fun e => by rw [e, zU_same] at hT; exact absurd hT (by decide)
    rw [zU_ne _ _ e] at hT
    exact hmin r ⟨hr, hT⟩
  · have e : r ≠ m := fun e => by rw [e, zU_same] at hT; exact absurd hT (by decide)
    rw [zU_ne _ _ e] at hT
    by_cases e2 : s = m
    · rw [e2, zU_same]; omega
    · rw [zU_ne _ _ e2] at hs ⊢
      have := hA r hr s hs hw
      have := hmin r ⟨hr, hT⟩
      omega
  · by_cases e : r = m
    · by_cases e2 : s = m
      · rw [e, e2, zU_same]; omega
      · rw [zU_ne _ _ e2] at hs ⊢
        rw [e, zU_same]
        rw [e] at hw
        exact hA m hm s hs hw
    · rw [zU_ne _ _ e] at hT ⊢
      by_cases e2 : s = m
      · rw [e2, zU_same]
        have := h1 r hT
        have := h2 m hm hmT
        omega
      · rw [zU_ne _ _ e2] at hs ⊢
        exact h4 s r hs hT hw
  · rw [cnL_put hmT, if_pos hm]
theorem stl_bf (ha : a < N) : ∀ k, ∃ T V M, Stl w N T V M (bfD w N a k) ∧ (k + 1 ≤ cnL T N ∨ N ≤ cnL T N)
  | 0 => by
    refine ⟨zU (fun _ => false) a true, fun _ => 0, 0, ⟨fun t ht => ?_, fun _ _ _ => Nat.zero_le _, fun _ _ _ _ _ _ => Nat.zero_le _, fun _ _ _ _ _ => Nat.zero_le _⟩, Or.inl ?_⟩
    · have : t = a := by
        by_cases e : t = a
        · exact e
        · rw [zU_ne _ _ e] at ht; exact absurd ht (by decide)
      subst this
      exact ⟨ha, zU_same _ _ _, Nat.le_refl _⟩
    · rw [cnL_put rfl, if_pos ha]; omega
  | k + 1 => by
    obtain ⟨T, V, M, h1, h2⟩ := stl_bf ha k
    by_cases c : cnL T N < N
    · obtain ⟨T', V', M', g1, g2⟩ := stl_grow h1 c
      exact ⟨T', V', M', g1, by omega⟩
    · exact ⟨T, V, M, rlA_keep (X := Stl w N T V M) (fun _ _ _ => stl_rlx) h1 N (Nat.le_refl _), Or.inr (by omega)⟩
/-- six rounds are enough -/
theorem bf_stable (hN : N ≤ 7) (ha : a < N) (hr : r < N) (hs : s < N) : imp w (bfD w N a 6) r s = false := by
  obtain ⟨T, V, M, ⟨h1, h2, h3, h4⟩, h5⟩ := stl_bf (w := w) ha 6
  have hf := cnL_full (T := T) N (by omega)
  cases c : imp w (bfD w N a 6) r s with
  | false => rfl
  | true =>
    have c2 := imp_t c
    have a1 := h1 r (hf r hr)
    have a2 := h1 s (hf s hs)
    have a3 := h4 s r (hf s hs) (hf r hr) c2.1
    omega
theorem bf_fl (hN : N ≤ 7) (ha : a < N) : flA w N (bfD w N a 6) N = false := (flA_i N (fun _ hr _ hs => bf_stable hN ha hr hs)).1
theorem bf_more (hN : N ≤ 7) (ha : a < N) : ∀ k, bfD w N a (6 + k) = bfD w N a 6
  | 0 => rfl
  | k + 1 => by
    show rlA w N (bfD w N a (6 + k)) N = _
    rw [bf_more hN ha k]
    exact (flA_i N (fun _ hr _ hs => bf_stable hN ha hr hs)).2
/-- a round that changes nothing has reached the end -/
theorem bf_end (hN : N ≤ 7) (ha : a < N) {k : Nat} (h : flA w N (bfD w N a k) N = false) : bfD w N a k = bfD w N a 6 := by
  have e : ∀ j, bfD w N a (k + j) = bfD w N a k := by
    intro j
    induction j with
    | zero => rfl
    | succ j ih =>
      show rlA w N (bfD w N a (k + j)) N = _
      rw [ih]
      exact (flA_f N h).1
  by_cases c : k ≤ 6
  · have := e (6 - k)
    rw [show k + (6 - k) = 6 by omega] at this
    exact this.symm
  · have := bf_more (w := w) hN ha (k - 6)
    rw [show 6 + (k - 6) = k by omega] at this
    exact this
end P
end
section
/-! Least weights: how many lines, how heavy, and what comes next -/
def wOK (w : Nat → Nat → Nat) : Prop := ∀ r s, w r s ≠ 0 → w r s % 8 = 1 ∧ w r s ≤ 202777
def hpI (w : Nat → Nat → Nat) (N a : Nat) (D : Nat → Nat) : Prop := D a = 0 ∧ (∀ r, D r ≤ bI) ∧ (∀ r, N ≤ r → D r = bI) ∧
  (∀ r, r < N → D r < bI → D r % 8 ≤ cnL (fun s => decide (D s < D r)) N ∧ D r ≤ (D r % 8) * 202777) ∧
  (∀ r, r < N → r ≠ a → D r < bI → ∃ s, s < N ∧ w r s ≠ 0 ∧ D s < bI ∧ w r s + D s ≤ D r)
section P
variable {w : Nat → Nat → Nat} {D : Nat → Nat} {N a r s : Nat}
theorem cnL_mono {p q : Nat → Bool} : ∀ n, (∀ j, j < n → p j = true → q j = true) → cnL p n ≤ cnL q n
  | 0, _ => Nat.le_refl _
  | n + 1, h => by
    have h1 := cnL_mono n (fun j hj => h j (by omega))
    show cnL p n + (if p n = true then 1 else 0) ≤ cnL q n + (if q n = true then 1 else 0)
    by_cases c : p n = true
    · rw [if_pos c, if_pos (h n (by omega) c)]; omega
    · rw [if_neg c]; omega
theorem cnL_miss {p : Nat → Bool} {r : Nat} (hr : r < N) (h : p r = false) : cnL p N < N := by
  have := cnL_put h N
  rw [if_pos hr] at this
  have := cnL_le (zU p r true) N
  omega
theorem hp_6 (hN : N ≤ 7) (h : hpI w N a D) (hr : r < N) (hD : D r < bI) : D r % 8 ≤ 6 := by
  have h1 := (h.2.2.2.1 r hr hD).1
  have h2 := cnL_miss (p := fun s => decide (D s < D r)) hr (by simp)
  omega
theorem hp_bd (hN : N ≤ 7) (h : hpI w N a D) (hr : r < N) (hD : D r < bI) : D r ≤ 1216662 := by
  have h1 := (h.2.2.2.1 r hr hD).2
  have h2 := hp_6 hN h hr hD
  have : D r % 8 * 202777 ≤ 6 * 202777 := Nat.mul_le_mul_right _ h2
  omega
theorem hp_0 (ha : a < N) : hpI w N a (zU (fun _ => bI) a 0) := by
  have e : ∀ r, zU (fun _ => bI) a 0 r < bI → r = a := fun r h => by
    by_cases c : r = a
    · exact c
    · rw [zU_ne _ _ c] at h; exact absurd h (Nat.lt_irrefl _)
  refine ⟨zU_same _ _ _, fun r => ?_, fun r hr => zU_ne _ _ (by omega), fun r hr h => ?_, fun r _ hr h => absurd (e r h) hr⟩
  · unfold zU; split
    · exact Nat.zero_le _
    · exact Nat.le_refl _
  · rw [e r h, zU_same]
    exact ⟨Nat.zero_le _, Nat.zero_le _⟩
theorem hp_rlx (hw : wOK w) (hN : N ≤ 7) (hr : r < N) (hs : s < N) (h : hpI w N a D) : hpI w N a (rlx w D r s) := by
  by_cases c : imp w D r s = true
  · rw [rlx_t c]
    obtain ⟨c1, c2⟩ := imp_t c
    obtain ⟨w1, w2⟩ := hw r s c1
    have hrD := h.2.1 r
    have hsD : D s < bI := by omega
    have h6 := hp_6 hN h hs hsD
    have hbd := hp_bd hN h hs hsD
    obtain ⟨h1, h2, h3, h4, h5⟩ := h
    have hra : r ≠ a := fun e => by rw [e, h1] at c2; omega
    have hmod : (w r s + D s) % 8 = D s % 8 + 1 := by omega
    have hle : ∀ x, zU D r (w r s + D s) x ≤ D x := fun x => by
      by_cases e : x = r
      · rw [e, zU_same]; omega
      · rw [zU_ne _ _ e]; exact Nat.le_refl _
    refine ⟨?_, fun x => Nat.le_trans (hle x) (h2 x), fun x hx => ?_, fun x hx hD => ?_, fun x hx hxa hD => ?_⟩
    · rw [zU_ne _ _ (fun e => hra e.symm)]; exact h1
    · rw [zU_ne _ _ (by omega)]; exact h3 x hx
    · by_cases e : x = r
      · subst e
        rw [zU_same, hmod]
        obtain ⟨a1, a2⟩ := h4 s hs hsD
        refine ⟨?_, ?_⟩
        · have hne : s ≠ x := fun e => by rw [e] at c2; omega
          have m := cnL_mono (p := zU (fun y => decide (D y < D s)) s true) (q := fun y => decide (zU D x (w x s + D s) y < w x s + D s)) N (fun j hj hp => by
            by_cases ej : j = s
            · subst ej
              rw [zU_ne _ _ hne]
              simp; omega
            · rw [zU_ne _ _ ej] at hp
              have hp' : D j < D s := by simpa using hp
              have := hle j
              have : zU D x (w x s + D s) j < w x s + D s := by omega
              simpa using this)
          rw [cnL_put (by simp), if_pos hs] at m
          omega
        · rw [Nat.add_mul]; omega
      · rw [zU_ne _ _ e] at hD ⊢
        obtain ⟨a1, a2⟩ := h4 x hx hD
        refine ⟨Nat.le_trans a1 (cnL_mono N (fun j hj hp => ?_)), a2⟩
        have hp' : D j < D x := by simpa using hp
        have := hle j
        have : zU D r (w r s + D s) j < D x := by omega
        simpa using this
    · by_cases e : x = r
      · subst e
        have hne : s ≠ x := fun e => by rw [e] at c2; omega
        rw [zU_same]
        exact ⟨s, hs, c1, by rw [zU_ne _ _ hne]; exact hsD, by rw [zU_ne _ _ hne]; exact Nat.le_refl _⟩
      · rw [zU_ne _ _ e] at hD ⊢
        obtain ⟨y, b1, b2, b3, b4⟩ := h5 x hx hxa hD
        have := hle y
        exact ⟨y, b1, b2, by omega, by omega⟩
  · rw [rlx_f (by simpa using c)]; exact h
theorem hp_bf (hw : wOK w) (hN : N ≤ 7) (ha : a < N) (k : Nat) : hpI w N a (bfD w N a k) := bfD_keep (X := hpI w N a) (fun _ _ _ => hp_rlx hw hN) (hp_0 ha) k
/-- at the end: some next clock fits exactly, and it is one line nearer -/
theorem bf_next (hw : wOK w) (hN : N ≤ 7) (ha : a < N) (hr : r < N) (hra : r ≠ a) (hD : bfD w N a 6 r < bI) : ∃ s, s < N ∧ w r s ≠ 0 ∧ bfD w N a 6 s < bI ∧ w r s + bfD w N a 6 s = bfD w N a 6 r := by
  obtain ⟨s, h1, h2, h3, h4⟩ := (hp_bf hw hN ha 6).2.2.2.2 r hr hra hD
  have := imp_f (bf_stable (w := w) hN ha hr h1) h2
  exact ⟨s, h1, h2, h3, by omega⟩
theorem bf_hop (hw : wOK w) (hN : N ≤ 7) (ha : a < N) (hs : s < N) (h1 : w r s ≠ 0) (h2 : bfD w N a 6 s < bI) (h3 : w r s + bfD w N a 6 s = bfD w N a 6 r) : bfD w N a 6 r % 8 = bfD w N a 6 s % 8 + 1 := by
  have := hp_6 hN (hp_bf hw hN ha 6) hs h2
  have := (hw r s h1).1
  omega
theorem bf_hop0 (hw : wOK w) (hN : N ≤ 7) (ha : a < N) (hr : r < N) (hD : bfD w N a 6 r < bI) (h : bfD w N a 6 r % 8 = 0) : r = a := by
  by_cases e : r = a
  · exact e
  · obtain ⟨s, h1, h2, h3, h4⟩ := bf_next hw hN ha hr e hD
    have := bf_hop hw hN ha h1 h2 h3 h4
    omega
/-- two weights are compared by cost first, then by how many lines -/
theorem w8_lt {c x c' x' : Nat} (hx : x < 8) (hx' : x' < 8) : 8 * c + x < 8 * c' + x' ↔ c < c' ∨ (c = c' ∧ x < x') := by omega
theorem w8_eq {c x c' x' : Nat} (hx : x < 8) (hx' : x' < 8) : 8 * c + x = 8 * c' + x' ↔ c = c' ∧ x = x' := by omega
end P
end
section
/-! The cost of a good line -/
theorem pt_ok {f den : Int64} (hd : 0 < den.toInt) (hB : bd den 819036168192) (h0 : 0 ≤ f.toInt) (hf : f.toInt ≤ 99 * den.toInt) : 0 ≤ (ptU f den).toInt ∧ (ptU f den).toInt ≤ 25344 := by
  unfold bd at hB
  have c256 : bd (256 : Int64) 256 := by unfold bd; decide
  have c1 : bd (1 : Int64) 1 := by unfold bd; decide
  have hfB : bd f 81084580651008 := by unfold bd; omega
  have hB' : bd den 819036168192 := hB
  obtain ⟨e1, b1⟩ := bd_mul c256 hfB (by decide)
  obtain ⟨e2, b2⟩ := bd_add b1 hB' (by decide)
  obtain ⟨e3, b3⟩ := bd_sub b2 c1 (by decide)
  rw [e2, e1] at e3
  have e4 : (256 : Int64).toInt = 256 := by decide
  have e5 : (1 : Int64).toInt = 1 := by decide
  rw [e4, e5] at e3
  have hd0 : den.toInt ≠ 0 := by omega
  have hn : 0 ≤ 256 * f.toInt + den.toInt - 1 := by omega
  have q0 : 0 ≤ (256 * f.toInt + den.toInt - 1) / den.toInt := Int.ediv_nonneg hn (by omega)
  have q1 : (256 * f.toInt + den.toInt - 1) / den.toInt < 25345 := Int.ediv_lt_of_lt_mul hd (by omega)
  have e6 : (ptU f den).toInt = (256 * f.toInt + den.toInt - 1) / den.toInt := by
    unfold ptU
    rw [Int64.toInt_div, e3, Int.tdiv_eq_ediv_of_nonneg hn]
    exact bm_id (by omega)
  rw [e6]
  omega
theorem i32_nat {x : Int64} {A : Int} (h0 : 0 ≤ x.toInt) (h1 : x.toInt ≤ A) (hA : A < 2 ^ 31) : x.toInt32 = nI x.toInt.toNat := by
  apply Int32.toInt_inj.mp
  rw [Int64.toInt_toInt32, nI_toInt (by omega), Int.bmod_eq_of_le_mul_two (by omega) (by omega)]
  omega
/-- the COST of the line from r to s if it is good, or 0 -/
def csN (S : Nat → Int32) (li le : Int32) (r s : Nat) : Nat := if kdB S li le 2 r s = true then (ptU (ffL S r s (fR S li le r s).2.1 16).2 (lden S r (fR S li le r s).2.1)).toInt.toNat + 1 else 0
def wtN (S : Nat → Int32) (li le : Int32) (r s : Nat) : Nat := if csN S li le r s = 0 then 0 else 8 * csN S li le r s + 1
section M
variable {S : Nat → Int32} {li le : Int32} {r s : Nat}
theorem fR_ok (hS : StK S) (hle : 2 ≤ le) (hr : r < 7) (hs : s < 7) : PtL S r s (fR S li le r s).2.1 ∧ (fR S li le r s).2.2.1 ≤ 16 ∧ (fR S li le r s).1 = lkd S r s (fR S li le r s).2.1 li le ∧ (fR S li le r s).1 ≠ -1 := by
  have h := fit_ok (li := li) hS hr hs hle 17 (bothL S r s) 0 sk0 bothL_pt (by have := cnL_le (bothL S r s) 16; omega) (by have := cnL_le (bothL S r s) 16; omega)
  exact ⟨h.1, h.2.1, h.2.2.1, h.2.2.2.1⟩
theorem good_pt (hS : StK S) (hle : 2 ≤ le) (hli : 0 ≤ li) (hli2 : li ≤ 99) (hr : r < 7) (hs : s < 7) (hk : (fR S li le r s).1 = 2) :
    lden S r (fR S li le r s).2.1 ≠ 0 ∧ 0 ≤ (ptU (ffL S r s (fR S li le r s).2.1 16).2 (lden S r (fR S li le r s).2.1)).toInt ∧ (ptU (ffL S r s (fR S li le r s).2.1 16).2 (lden S r (fR S li le r s).2.1)).toInt ≤ 25344 := by
  obtain ⟨hp, -, hk2, -⟩ := fR_ok (li := li) hS hle hr hs
  rw [hk] at hk2
  generalize (fR S li le r s).2.1 = L at hp hk2
  have hL : ∀ b, b < 16 → L b = true → S (16 * r + b) ≠ -4 := fun b hb h => (hp b hb h).1
  unfold lkd at hk2
  split at hk2
  · exact absurd hk2 (by decide)
  · rename_i c
    have c1 : ¬ nI (cnL L 16) < le := fun q => c (Or.inl q)
    have c2 : lxx S r L ≠ 0 := fun q => c (Or.inr q)
    split at hk2
    · rename_i c3
      have hn : 0 < cnL L 16 := by
        rcases Nat.eq_zero_or_pos (cnL L 16) with q | q
        · rw [q] at c1
          exact absurd (Int32.lt_iff_toInt_lt.mpr (by have := Int32.le_iff_toInt_le.mp hle; have e : (2 : Int32).toInt = 2 := by decide
                                                      have e0 : (nI 0).toInt = 0 := by decide
                                                      omega)) c1
        · exact q
      have hdp := lden_pos hS hr hL hn c2
      have hdB := (lden_ok hS hr hL).1
      have hf0 : 0 ≤ (ffL S r s L 16).2.toInt := by
        rcases ff_ok hS hr hs hp 16 (Nat.le_refl _) with q | ⟨f, q1, q2, q3⟩
        · omega
        · rw [q3]; exact (lfar_ok hS hr hs hp q1 (hp f q1 q2).1 (hp f q1 q2).2).2
      have hf : (ffL S r s L 16).2.toInt ≤ 99 * (lden S r L).toInt := by
        have a1 := Int64.le_iff_toInt_le.mp c3
        have l0 := Int32.le_iff_toInt_le.mp hli
        have l1 := Int32.le_iff_toInt_le.mp hli2
        have e0 : (0 : Int32).toInt = 0 := by decide
        have e99 : (99 : Int32).toInt = 99 := by decide
        have lb : bd li.toInt64 99 := by unfold bd; rw [Int32.toInt_toInt64]; omega
        rw [(bd_mul lb hdB (by decide)).1, Int32.toInt_toInt64] at a1
        have : li.toInt * (lden S r L).toInt ≤ 99 * (lden S r L).toInt := Int.mul_le_mul_of_nonneg_right (by omega) (by omega)
        omega
      exact ⟨fun q => by rw [q] at hdp; exact absurd hdp (by decide), pt_ok hdp hdB hf0 hf⟩
    · split at hk2
      · exact absurd hk2 (by decide)
      · exact absurd hk2 (by decide)
theorem cs_bd (hS : StK S) (hle : 2 ≤ le) (hli : 0 ≤ li) (hli2 : li ≤ 99) (hr : r < 7) (hs : s < 7) : csN S li le r s ≤ 25345 := by
  unfold csN
  split
  · rename_i c
    unfold kdB at c
    simp only [Bool.and_eq_true, decide_eq_true_eq] at c
    have := good_pt hS hle hli hli2 hr hs c.2
    omega
  · exact Nat.zero_le _
theorem cs_eq (hS : StK S) (hle : 2 ≤ le) (hli : 0 ≤ li) (hli2 : li ≤ 99) (hr : r < 7) (hs : s < 7) (hk : kdB S li le 2 r s = true) : (ptU (ffL S r s (fR S li le r s).2.1 16).2 (lden S r (fR S li le r s).2.1)).toInt32 + 1 = nI (csN S li le r s) ∧ lden S r (fR S li le r s).2.1 ≠ 0 ∧ 0 < csN S li le r s := by
  have c := hk
  unfold kdB at c
  simp only [Bool.and_eq_true, decide_eq_true_eq] at c
  have h := good_pt hS hle hli hli2 hr hs c.2
  unfold csN
  rw [if_pos hk, i32_nat h.2.1 h.2.2 (by decide), nI_1]
  exact ⟨rfl, h.1, Nat.succ_pos _⟩
end M
end
section
/-! Chains -/
def enI (x : Nat) : Int32 := if x = bI then -4 else nI x
def enW (x : Nat) : Int32 := if x = 0 then -4 else nI x
def b01 (b : Bool) : Int32 := if b = true then 1 else 0
/-- the lines are taken -/
def clA (h : zH) (w : Nat → Nat → Nat) (N : Nat) : Prop := (∃ F, h.2 117 = zO 1 F ∧ F 0 = .int (nI N) ∧ F 2 = .ref 118 ∧ F 3 = .ref 119) ∧ ∃ f, h.2 118 = zI 0 49 f ∧ ∀ r s, r < N → s < N → f (7 * r + s) = enW (w r s)
/-- the chains to an aim are weighed so far -/
def cwA (h : zH) (w : Nat → Nat → Nat) (N a : Nat) (D : Nat → Nat) : Prop := (∃ F, h.2 117 = zO 1 F ∧ F 0 = .int (nI N) ∧ F 1 = .int (nI a) ∧ F 2 = .ref 118 ∧ F 3 = .ref 119) ∧ (∃ f, h.2 118 = zI 0 49 f ∧ ∀ r s, r < N → s < N → f (7 * r + s) = enW (w r s)) ∧ ∃ g, h.2 119 = zI 0 7 g ∧ ∀ r, r < 7 → g r = enI (D r)
theorem cwA.cl {h : zH} {w : Nat → Nat → Nat} {N a : Nat} {D : Nat → Nat} (c : cwA h w N a D) : clA h w N := by
  obtain ⟨⟨F, h1, h2, -, h3⟩, h4, -⟩ := c
  exact ⟨⟨F, h1, h2, h3⟩, h4⟩
theorem zI_inj {t n : Nat} {f g : Nat → Int32} (h : zI t n f = zI t n g) : f = g := by
  cases h; rfl
theorem nI_m4 {n : Nat} (h : n < 2 ^ 31) : ¬ nI n = -4 := fun q => by
  have := congrArg Int32.toInt q
  rw [nI_toInt h] at this
  have e : (-4 : Int32).toInt = -4 := by decide
  omega
section C
variable {d : Nat} {e : Nat × Nat} {h : zH} {Q : zQ} {w : Nat → Nat → Nat} {N a : Nat} {D : Nat → Nat} {r s : Nat}
theorem cC_weightBy (hc : cwA h w N a D) (hp : hpI w N a D) (hw : wOK w) (hN : N ≤ 7) (hr : r < N) (hs : s < N)
    (K0 : w r s = 0 ∨ D s = bI → Q (some (.int (-4))) h) (K1 : w r s ≠ 0 → D s < bI → Q (some (.int (nI (w r s + D s)))) h) : zW (d + 1) m_Chains_weightBy e 0 [.ref 117, .int (nI r), .int (nI s), zD] [] h Q := by
  obtain ⟨⟨F, hF, f0, f1, f2, f3⟩, ⟨f, hf, hf2⟩, g, hg, hg2⟩ := hc
  refine b_Chains_weightBy_0 ⟨F, hF, _, f2, 49, f, hf, ?_⟩
  rw [ix7]
  refine ⟨zIn_nI (by omega) (by decide), ?_⟩
  rw [nI_clamp (by omega), hf2 r s hr hs]
  by_cases c : w r s = 0
  · exact ifT (by unfold enW; rw [if_pos c]) (K0 (Or.inl c))
  · have hwb := hw r s c
    have ew : enW (w r s) = nI (w r s) := if_neg c
    rw [ew]
    refine ifF (nI_m4 (by omega)) ⟨F, hF, _, f3, 7, g, hg, zIn_nI (by omega) (by decide), ?_⟩
    rw [nI_clamp (by omega), hg2 s (by omega)]
    by_cases c2 : D s = bI
    · exact ifT (by unfold enI; rw [if_pos c2]) (K0 (Or.inr c2))
    · have hlt : D s < bI := by have := hp.2.1 s; omega
      have ed : enI (D s) = nI (D s) := if_neg c2
      have hb := hp_bd hN hp hs hlt
      rw [ed]
      refine ifF (nI_m4 (by omega)) ⟨F, hF, _, f3, 7, g, hg, zIn_nI (by omega) (by decide), ?_⟩
      rw [hg2 s (by omega), ed, nI_add]
      exact K1 c hlt
theorem cwA.put (hc : cwA h w N a D) (hr : r < 7) {v : Nat} (hv : v < bI) : ∃ g, h.2 119 = zI 0 7 g ∧ cwA (zP h 119 (zI 0 7 (zU g r (nI v)))) w N a (zU D r v) := by
  obtain ⟨⟨F, hF, q⟩, ⟨f, hf, hf2⟩, g, hg, hg2⟩ := hc
  refine ⟨g, hg, ⟨F, (zP_ne _ _ (by decide)).trans hF, q⟩, ⟨f, (zP_ne _ _ (by decide)).trans hf, hf2⟩, _, zP_same _ _ _, fun x hx => ?_⟩
  by_cases ex : x = r
  · rw [ex, zU_same, zU_same]
    exact (if_neg (by omega)).symm
  · rw [zU_ne _ _ ex, zU_ne _ _ ex]; exact hg2 x hx
theorem cC_improve (hc : cwA h w N a D) (hp : hpI w N a D) (hw : wOK w) (hN : N ≤ 7) (hr : r < N)
    (K : ∀ h', cwA h' w N a (rlR w r D N) → zFr (fun z => z = 119) h h' → Q (some (.int (b01 (flR w r D N)))) h') : zW (d + 2) m_Chains_improve e 0 [.ref 117, .int (nI r), zD, zD, zD] [] h Q := by
  refine b_Chains_improve_0 ?_
  have key : ∀ j s (h1 : zH), s + j = N → cwA h1 w N a (rlR w r D s) → zFr (fun z => z = 119) h h1 → zW (d + 2) m_Chains_improve e 4 [.ref 117, .int (nI r), .int (b01 (flR w r D s)), .int (nI s), zD] [] h1 Q := by
    intro j
    induction j with
    | zero =>
      intro s h1 hj hc1 hf1
      have : s = N := by omega
      subst this
      obtain ⟨F, hF, f0, -⟩ := hc1.1
      refine b_Chains_improve_4 ⟨F, hF, _, f0, ifT (Int32.le_refl _) ⟨?_, K h1 hc1 hf1⟩⟩
      unfold b01
      split
      · exact Or.inr rfl
      · exact Or.inl rfl
    | succ j ih =>
      intro s h1 hj hc1 hf1
      have hp1 : hpI w N a (rlR w r D s) := rlR_keep (X := hpI w N a) (fun _ _ _ => hp_rlx hw hN) hr hp s (by omega)
      obtain ⟨F, hF, f0, f1, f2, f3⟩ := hc1.1
      have hs : s < N := by omega
      have no : imp w (rlR w r D s) r s = false → zW (d + 2) m_Chains_improve e 4 [.ref 117, .int (nI r), .int (b01 (flR w r D s)), .int (nI s + 1), zD] [] h1 Q := fun c => by
        have := ih (s + 1) h1 (by omega) (by show cwA h1 w N a (rlx w (rlR w r D s) r s); rw [rlx_f c]; exact hc1) hf1
        rw [show flR w r D (s + 1) = flR w r D s by show (flR w r D s || imp w (rlR w r D s) r s) = _; rw [c, Bool.or_false]] at this
        rw [nI_1]
        exact this
      have yes : imp w (rlR w r D s) r s = true → ∀ g, h1.2 119 = zI 0 7 g → zW (d + 2) m_Chains_improve e 4 [.ref 117, .int (nI r), .int 1, .int (nI s + 1), zD] [] (zP h1 119 (zI 0 7 (zU g r (nI (w r s + rlR w r D s s))))) Q := fun c g hg => by
        have hi := imp_t c
        have hrb := hp1.2.1 r
        obtain ⟨g', hg', hc2⟩ := hc1.put (r := r) (v := w r s + rlR w r D s s) (by omega) (by omega)
        have eg : g' = g := by rw [hg] at hg'; exact (zI_inj hg').symm
        subst eg
        have := ih (s + 1) _ (by omega) (by show cwA _ w N a (rlx w (rlR w r D s) r s); rw [rlx_t c]; exact hc2) (hf1.trans (zFr.put rfl))
        rw [show flR w r D (s + 1) = true by show (flR w r D s || imp w (rlR w r D s) r s) = _; rw [c, Bool.or_true]] at this
        rw [nI_1]
        exact this
      refine b_Chains_improve_4 ⟨F, hF, _, f0, ifF (nI_ge hs (by omega)) ⟨⟨F, hF⟩, cC_weightBy hc1 hp1 hw hN hr hs (fun c => ⟨_, rfl, ifT rfl (no ?_)⟩) (fun c1 c2 => ?_)⟩⟩
      · cases q : imp w (rlR w r D s) r s with
        | false => rfl
        | true =>
          have := imp_t q
          have := hp1.2.1 r
          omega
      · have hb := hp_bd hN hp1 hs c2
        have hwb := hw r s c1
        obtain ⟨-, -, g, hg, hg2⟩ := id hc1
        refine ⟨_, rfl, ifF (nI_m4 (by omega)) ⟨F, hF, _, f3, 7, g, hg, zIn_nI (by omega) (by decide), ?_⟩⟩
        rw [nI_clamp (by omega), hg2 r (by omega)]
        by_cases c3 : rlR w r D s r = bI
        · refine ifT (by unfold enI; rw [if_pos c3]) ⟨F, hF, _, f3, 7, g, hg, zIn_nI (by omega) (by decide), ?_⟩
          rintro h14 rfl
          exact yes (by unfold imp; simp only [Bool.and_eq_true, decide_eq_true_eq]; exact ⟨c1, by rw [c3]; unfold bI; omega⟩) g hg
        · have hrb := hp1.2.1 r
          have hb2 := hp_bd hN hp1 hr (by omega)
          have er : enI (rlR w r D s r) = nI (rlR w r D s r) := if_neg c3
          rw [er]
          refine ifF (nI_m4 (by omega)) ⟨F, hF, _, f3, 7, g, hg, zIn_nI (by omega) (by decide), ?_⟩
          rw [hg2 r (by omega), er]
          refine ifB (fun c4 => no ?_) (fun c4 => ⟨F, hF, _, f3, 7, g, hg, zIn_nI (by omega) (by decide), ?_⟩)
          · have := (nI_leI (by omega) (by omega)).mp c4
            unfold imp
            simp only [Bool.and_eq_false_iff, decide_eq_false_iff_not]
            omega
          · rintro h23 rfl
            have := mt (nI_leI (a := rlR w r D s r) (b := w r s + rlR w r D s s) (by omega) (by omega)).mpr c4
            exact yes (by unfold imp; simp only [Bool.and_eq_true, decide_eq_true_eq]; exact ⟨c1, by omega⟩) g hg
  exact key N 0 h (by omega) hc zFr.rf
end C
end
section
/-! Chains: to an aim -/
theorem s3 : (((3 : Int32) &&& 31).toBitVec.smod 32).toNat = 3 := by decide
def wtW (S : Nat → Int32) (li le : Int32) (N r s : Nat) : Nat := if r < N ∧ s < N then wtN S li le r s else 0
theorem wt_ok {S : Nat → Int32} {li le : Int32} {N : Nat} (hS : StK S) (hle : 2 ≤ le) (hli : 0 ≤ li) (hli2 : li ≤ 99) (hN : N ≤ 7) : wOK (wtW S li le N) := fun r s h => by
  unfold wtW at h ⊢
  split at h
  · rename_i c
    rw [if_pos c]
    have := cs_bd (S := S) (r := r) (s := s) hS hle hli hli2 (by omega) (by omega)
    unfold wtN at h ⊢
    split at h
    · exact absurd rfl h
    · rename_i c2
      rw [if_neg c2]
      omega
  · exact absurd rfl h
section C
variable {d : Nat} {e : Nat × Nat} {h : zH} {Q : zQ} {w : Nat → Nat → Nat} {N a : Nat} {D : Nat → Nat} {r s : Nat}
theorem cC_aimAt {g0 : Nat → Int32} (hc : clA h w N) (h119 : h.2 119 = zI 0 7 g0) (hw : wOK w) (hN : N ≤ 7) (ha : a < N)
    (K : ∀ h', cwA h' w N a (bfD w N a 6) → zFr (fun z => z = 117 ∨ z = 119) h h' → Q none h') : zW (d + 3) m_Chains_aimAt e 0 [.ref 117, .int (nI a), zD, zD, zD] [] h Q := by
  obtain ⟨⟨F, hF, f0, f2, f3⟩, f, hf, hf2⟩ := hc
  refine b_Chains_aimAt_0 ⟨F, hF, ?_⟩
  rintro h2 rfl
  refine ⟨_, zP_same _ _ _, _, f3, cJ_fillI (n := 7) (f := g0) ((zP_ne _ _ (by decide)).trans h119) (by decide) (fun g hg => ⟨rfl, _, (zP_ne _ _ (by decide)).trans (zP_same _ _ _), _, f3, 7, g, zP_same _ _ _, zIn_nI (by omega) (by decide), ?_⟩)⟩
  rintro h11 rfl
  rw [zP_zP, nI_clamp (by omega)]
  have hfr : zFr (fun z => z = 117 ∨ z = 119) h (zP (zP h 117 (zO 1 (zU F 1 (.int (nI a))))) 119 (zI 0 7 (zU g a 0))) := (zFr.put (Or.inl rfl)).trans (zFr.put (Or.inr rfl))
  have hc0 : cwA (zP (zP h 117 (zO 1 (zU F 1 (.int (nI a))))) 119 (zI 0 7 (zU g a 0))) w N a (bfD w N a 0) := by
    refine ⟨⟨_, (zP_ne _ _ (by decide)).trans (zP_same _ _ _), f0, rfl, f2, f3⟩, ⟨f, by rw [hfr _ (by decide)]; exact hf, hf2⟩, _, zP_same _ _ _, fun x hx => ?_⟩
    show _ = enI (zU (fun _ => bI) a 0 x)
    by_cases ex : x = a
    · rw [ex, zU_same, zU_same]; rfl
    · rw [zU_ne _ _ ex, zU_ne _ _ ex, hg x hx]
      exact (if_pos rfl).symm
  generalize zP (zP h 117 (zO 1 (zU F 1 (.int (nI a))))) 119 (zI 0 7 (zU g a 0)) = h0 at hfr hc0
  have inner : ∀ k, (∀ h1, cwA h1 w N a (bfD w N a (k + 1)) → zFr (fun z => z = 117 ∨ z = 119) h h1 → zW (d + 3) m_Chains_aimAt e 25 [.ref 117, zD, .int (b01 (flA w N (bfD w N a k) N)), .int (nI (k + 1)), zD] [] h1 Q) →
      ∀ j r (h1 : zH), r + j = N → cwA h1 w N a (rlA w N (bfD w N a k) r) → zFr (fun z => z = 117 ∨ z = 119) h h1 → zW (d + 3) m_Chains_aimAt e 40 [.ref 117, zD, .int (b01 (flA w N (bfD w N a k) r)), .int (nI k), .int (nI r)] [] h1 Q := by
    intro k Kn j
    induction j with
    | zero =>
      intro r h1 hj hc1 hf1
      have : r = N := by omega
      subst this
      obtain ⟨F, hF, f0, -⟩ := hc1.1
      refine b_Chains_aimAt_40 ⟨F, hF, _, f0, ifT (Int32.le_refl _) ?_⟩
      rw [nI_1]
      exact Kn h1 hc1 hf1
    | succ j ih =>
      intro r h1 hj hc1 hf1
      obtain ⟨F, hF, f0, -⟩ := hc1.1
      have hr : r < N := by omega
      have hp1 : hpI w N a (rlA w N (bfD w N a k) r) := rlA_keep (X := hpI w N a) (fun _ _ _ => hp_rlx hw hN) (hp_bf hw hN ha k) r (by omega)
      refine b_Chains_aimAt_40 ⟨F, hF, _, f0, ifF (nI_ge hr (by omega)) ⟨⟨F, hF⟩, cC_improve hc1 hp1 hw hN hr (fun h2 hc2 hf2 => ⟨_, rfl, ?_⟩)⟩⟩
      have hf3 := hf1.trans (hf2.sub (B := fun z => z = 117 ∨ z = 119) (fun z hz => Or.inr hz))
      have := ih (r + 1) h2 (by omega) hc2 hf3
      rw [nI_1]
      cases c : flR w r (rlA w N (bfD w N a k) r) N with
      | true =>
        rw [show flA w N (bfD w N a k) (r + 1) = true by show (flA w N (bfD w N a k) r || flR w r (rlA w N (bfD w N a k) r) N) = _; rw [c, Bool.or_true]] at this
        exact ifF (by decide) this
      | false =>
        rw [show flA w N (bfD w N a k) (r + 1) = flA w N (bfD w N a k) r by show (flA w N (bfD w N a k) r || flR w r (rlA w N (bfD w N a k) r) N) = _; rw [c, Bool.or_false]] at this
        exact ifT (by decide) this
  have outer : ∀ j k (b : Bool) (h1 : zH), k + j = 7 → (b = false → bfD w N a k = bfD w N a 6) → cwA h1 w N a (bfD w N a k) → zFr (fun z => z = 117 ∨ z = 119) h h1 → zW (d + 3) m_Chains_aimAt e 25 [.ref 117, zD, .int (b01 b), .int (nI k), zD] [] h1 Q := by
    intro j
    induction j with
    | zero =>
      intro k b h1 hj hb hc1 hf1
      have : k = 7 := by omega
      subst this
      rw [show bfD w N a 7 = bfD w N a 6 from bf_more hN ha 1] at hc1
      exact b_Chains_aimAt_25 (ifB (fun _ => K h1 hc1 hf1) (fun _ => ifT (Int32.le_refl _) (K h1 hc1 hf1)))
    | succ j ih =>
      intro k b h1 hj hb hc1 hf1
      refine b_Chains_aimAt_25 ?_
      cases b with
      | false =>
        rw [hb rfl] at hc1
        exact ifT rfl (K h1 hc1 hf1)
      | true =>
        refine ifF (by decide) (ifF (nI_ge (b := 7) (by omega) (by decide)) (inner k (fun h2 hc2 hf2 => ?_) N 0 h1 (by omega) hc1 hf1))
        refine ih (k + 1) _ h2 (by omega) (fun q => ?_) hc2 hf2
        rw [show bfD w N a (k + 1) = bfD w N a k from (flA_f N q).1]
        exact bf_end hN ha q
  exact outer 7 0 true h0 (by omega) (fun q => absurd q (by decide)) hc0 hfr
theorem cC_reachesAim (hc : cwA h w N a D) (hp : hpI w N a D) (hN : N ≤ 7) (hr : r < N) (K : Q (some (.int (b01 (decide (D r < bI))))) h) : zW (d + 1) m_Chains_reachesAim e 0 [.ref 117, .int (nI r)] [] h Q := by
  obtain ⟨⟨F, hF, f0, f1, f2, f3⟩, -, g, hg, hg2⟩ := hc
  refine b_Chains_reachesAim_0 ⟨F, hF, _, f3, 7, g, hg, zIn_nI (by omega) (by decide), ?_⟩
  rw [nI_clamp (by omega), hg2 r (by omega)]
  have hrb := hp.2.1 r
  by_cases c : D r = bI
  · refine ifT (by unfold enI; rw [if_pos c]) ⟨by decide, ?_⟩
    rw [c] at K
    exact K
  · have hb := hp_bd hN hp hr (by omega)
    rw [show decide (D r < bI) = true from decide_eq_true (by omega)] at K
    exact ifF (by unfold enI; rw [if_neg c]; exact nI_m4 (by omega)) ⟨by decide, K⟩
theorem cC_costToAim (hc : cwA h w N a D) (hp : hpI w N a D) (hN : N ≤ 7) (hr : r < N) (hD : D r < bI) (K : Q (some (.int (nI (D r / 8)))) h) : zW (d + 1) m_Chains_costToAim e 0 [.ref 117, .int (nI r)] [] h Q := by
  obtain ⟨⟨F, hF, f0, f1, f2, f3⟩, -, g, hg, hg2⟩ := hc
  have hb := hp_bd hN hp hr hD
  refine b_Chains_costToAim_0 ⟨F, hF, _, f3, 7, g, hg, zIn_nI (by omega) (by decide), ?_⟩
  rw [nI_clamp (by omega), hg2 r (by omega), show enI (D r) = nI (D r) from if_neg (by omega), pk_shrN (by omega) _ 3 s3]
  exact K
theorem cC_hopsToAim (hc : cwA h w N a D) (hp : hpI w N a D) (hN : N ≤ 7) (hr : r < N) (hD : D r < bI) (K : Q (some (.int (nI (D r % 8)))) h) : zW (d + 1) m_Chains_hopsToAim e 0 [.ref 117, .int (nI r)] [] h Q := by
  obtain ⟨⟨F, hF, f0, f1, f2, f3⟩, -, g, hg, hg2⟩ := hc
  have hb := hp_bd hN hp hr hD
  refine b_Chains_hopsToAim_0 ⟨F, hF, _, f3, 7, g, hg, zIn_nI (by omega) (by decide), ?_⟩
  rw [nI_clamp (by omega), hg2 r (by omega), show enI (D r) = nI (D r) from if_neg (by omega), pk_andN (by omega) 3 (by decide)]
  exact K
/-- s fits behind r -/
def fitsN (w : Nat → Nat → Nat) (D : Nat → Nat) (r s : Nat) : Prop := w r s ≠ 0 ∧ D s < bI ∧ w r s + D s = D r
theorem cC_nextToAim (hc : cwA h w N a D) (hp : hpI w N a D) (hw : wOK w) (hN : N ≤ 7) (hr : r < N) (hD : D r < bI) (hex : ∃ s, s < N ∧ fitsN w D r s)
    (K : ∀ s, s < N → fitsN w D r s → (∀ s', s' < s → ¬ fitsN w D r s') → Q (some (.int (nI s))) h) : zW (d + 2) m_Chains_nextToAim e 0 [.ref 117, .int (nI r), zD] [] h Q := by
  refine b_Chains_nextToAim_0 ?_
  have key : ∀ j s, s + j = N → (∀ s', s' < s → ¬ fitsN w D r s') → zW (d + 2) m_Chains_nextToAim e 2 [.ref 117, .int (nI r), .int (nI s)] [] h Q := by
    intro j
    induction j with
    | zero =>
      intro s hj hs
      obtain ⟨s0, q1, q2⟩ := hex
      exact absurd q2 (hs s0 (by omega))
    | succ j ih =>
      intro s hj hs
      obtain ⟨⟨F, hF, f0, f1, f2, f3⟩, -, g, hg, hg2⟩ := id hc
      have hb := hp_bd hN hp hr hD
      have er : enI (D r) = nI (D r) := if_neg (by omega)
      have no : ¬ fitsN w D r s → zW (d + 2) m_Chains_nextToAim e 2 [.ref 117, .int (nI r), .int (nI s + 1)] [] h Q := fun c => by
        rw [nI_1]
        refine ih (s + 1) (by omega) (fun s' hs' => ?_)
        by_cases es : s' = s
        · rw [es]; exact c
        · exact hs s' (by omega)
      refine b_Chains_nextToAim_2 ⟨F, hF, _, f0, ifF (nI_ge (by omega) (by omega)) ⟨⟨F, hF⟩, cC_weightBy hc hp hw hN hr (by omega) (fun c => ⟨_, rfl, F, hF, _, f3, 7, g, hg, zIn_nI (by omega) (by decide), ?_⟩) (fun c1 c2 => ⟨_, rfl, F, hF, _, f3, 7, g, hg, zIn_nI (by omega) (by decide), ?_⟩)⟩⟩
      · rw [nI_clamp (by omega), hg2 r (by omega), er]
        refine ifF (fun q => nI_m4 (by omega) q.symm) (no (fun q => ?_))
        have := q.1
        have := q.2.1
        omega
      · have hb2 := hp_bd hN hp (show s < N by omega) c2
        have hwb := hw r s c1
        rw [nI_clamp (by omega), hg2 r (by omega), er]
        refine ifB (fun c3 => K s (by omega) ⟨c1, c2, (nI_eq (by omega) (by omega)).mp c3⟩ hs) (fun c3 => no (fun q => c3 (by rw [q.2.2])))
  exact key N 0 (by omega) (fun s' hs' => absurd hs' (Nat.not_lt_zero _))
end C
end
section
/-! Chains: the lines are taken; pairs are counted -/
def chO (h : zH) : Prop := (∃ F, h.2 117 = zO 1 F ∧ F 2 = .ref 118 ∧ F 3 = .ref 119) ∧ (∃ f, h.2 118 = zI 0 49 f) ∧ ∃ g, h.2 119 = zI 0 7 g
theorem cwA.ch {h : zH} {w : Nat → Nat → Nat} {N a : Nat} {D : Nat → Nat} (c : cwA h w N a D) : chO h := by
  obtain ⟨⟨F, h1, h2, -, h3⟩, ⟨f, hf, -⟩, g, hg, -⟩ := c
  exact ⟨⟨F, h1, h3⟩, ⟨f, hf⟩, g, hg⟩
theorem chO.fr {A : Nat → Prop} {h h' : zH} (c : chO h) (f : zFr A h h') (hA : ∀ z, A z → ¬ (117 ≤ z ∧ z < 120)) : chO h' := by
  obtain ⟨⟨F, h1, h3⟩, ⟨f1, hf⟩, g, hg⟩ := c
  exact ⟨⟨F, by rw [f _ (fun z => hA _ z (by omega))]; exact h1, h3⟩, ⟨f1, by rw [f _ (fun z => hA _ z (by omega))]; exact hf⟩, g, by rw [f _ (fun z => hA _ z (by omega))]; exact hg⟩
theorem clA.fr {A : Nat → Prop} {h h' : zH} {w : Nat → Nat → Nat} {N : Nat} (c : clA h w N) (f : zFr A h h') (hA : ∀ z, A z → ¬ (117 ≤ z ∧ z < 119)) : clA h' w N := by
  obtain ⟨⟨F, h1, h3⟩, f1, hf, hf2⟩ := c
  exact ⟨⟨F, by rw [f _ (fun z => hA _ z (by omega))]; exact h1, h3⟩, f1, by rw [f _ (fun z => hA _ z (by omega))]; exact hf, hf2⟩
section C
variable {d : Nat} {e : Nat × Nat} {h : zH} {Q : zQ} {w : Nat → Nat → Nat} {l q : Int32} {S : Nat → Int32} {nw N a : Nat} {D : Nat → Nat} {r s : Nat}
theorem cC_weightOf {p : Nat} {F : Nat → Value} {K0 : Nat → Int32} (hF : h.2 p = zO 3 F) (hR : lnR F K0 S l q r s) (hS : StK S) (hq : 2 ≤ q) (hl : 0 ≤ l) (hl2 : l ≤ 99) (hr : r < 7) (hs : s < 7) (hrs : r ≠ s) (K : Q (some (.int (enW (wtN S l q r s)))) h) : zW (d + 3) m_Chains_weightOf e 0 [.ref p] [] h Q := by
  obtain ⟨a1, ⟨-, -, -, -, -, a7⟩, -, b4, -⟩ := hR
  refine b_Chains_weightOf_0 ⟨F, hF, _, a1, ifB (fun c => ⟨⟨F, hF⟩, ?_⟩) (fun c => ?_)⟩
  · have hk : kdB S l q 2 r s = true := by unfold kdB; simp [hrs, c]
    obtain ⟨e1, e2, e3⟩ := cs_eq hS hq hl hl2 hr hs hk
    have hcb := cs_bd (S := S) hS hq hl hl2 hr hs
    refine cL_costOfGood hF a7 b4 e2 ⟨_, rfl, ?_⟩
    rw [e1, pk_shlN _ 3 s3 (by omega), nI_1]
    rw [show wtN S l q r s = 8 * csN S l q r s + 1 from if_neg (by omega), show enW (8 * csN S l q r s + 1) = nI (8 * csN S l q r s + 1) from if_neg (by omega), Nat.mul_comm] at K
    exact K
  · have hk : ¬ kdB S l q 2 r s = true := by unfold kdB; simp [c]
    have : csN S l q r s = 0 := if_neg hk
    unfold wtN enW at K
    rw [if_pos this] at K
    exact K
theorem cC_renew (hb : bkA h 15 (nI N) l q S) (hw : wbA h S l q nw) (hc : chO h) (hS : StK S) (hq : 2 ≤ q) (hl : 0 ≤ l) (hl2 : l ≤ 99) (hnw : nw < 2 ^ 30) (hN : N ≤ 7)
    (K : ∀ h', wbA h' S l q nw → clA h' (wtW S l q N) N → chO h' → zFr (fun z => 19 ≤ z ∧ z < 119) h h' → Q none h') : zW (d + 5) m_Chains_renew e 0 [.ref 117, .ref 14, zD, zD, zD] [] h Q := by
  obtain ⟨⟨W, hW, w0, -⟩, -⟩ := hw.1
  obtain ⟨⟨B, hB, b0, -⟩, -⟩ := id hb
  obtain ⟨⟨F, hF, f2, f3⟩, ⟨f, hf⟩, g, hg⟩ := hc
  refine b_Chains_renew_0 ⟨W, hW, _, w0, B, hB, _, b0, F, hF, ?_⟩
  rintro h6 rfl
  -- what holds in the loops
  let I : zH → Nat → Nat → Prop := fun h1 r s => (∃ F, h1.2 117 = zO 1 F ∧ F 0 = .int (nI N) ∧ F 2 = .ref 118 ∧ F 3 = .ref 119) ∧ (∃ f, h1.2 118 = zI 0 49 f ∧ ∀ r' s', r' < N → s' < N → (r' < r ∨ (r' = r ∧ s' < s)) → f (7 * r' + s') = enW (wtN S l q r' s')) ∧ wbA h1 S l q nw ∧ zFr (fun z => 19 ≤ z ∧ z < 119) h h1
  have put : ∀ h1 r s f, I h1 r s → r < N → s < N → h1.2 118 = zI 0 49 f → I (zP h1 118 (zI 0 49 (zU f (7 * r + s) (enW (wtN S l q r s))))) r (s + 1) := by
    intro h1 r s f1 hI hr hs hf1
    obtain ⟨⟨F, hF, q1⟩, ⟨f', hf', hf2⟩, hw1, hfr⟩ := hI
    have : f' = f1 := by rw [hf1] at hf'; exact (zI_inj hf').symm
    subst this
    have h118 : zFr (fun z => z = 118) h1 (zP h1 118 (zI 0 49 (zU f' (7 * r + s) (enW (wtN S l q r s))))) := zFr.put rfl
    refine ⟨⟨F, (zP_ne _ _ (by decide)).trans hF, q1⟩, ⟨_, zP_same _ _ _, fun r' s' hr' hs' hor => ?_⟩, hw1.fr h118 (fun z hz => by omega), hfr.trans (h118.sub (fun z hz => by omega))⟩
    by_cases ez : 7 * r' + s' = 7 * r + s
    · have : r' = r ∧ s' = s := by omega
      rw [ez, zU_same, this.1, this.2]
    · rw [zU_ne _ _ ez]
      exact hf2 r' s' hr' hs' (by omega)
  have inner : ∀ r, r < N → (∀ h2, I h2 (r + 1) 0 → zW (d + 5) m_Chains_renew e 13 [.ref 117, .ref 14, .int (nI (r + 1)), zD, zD] [] h2 Q) → ∀ j s h1, s + j = N → I h1 r s → zW (d + 5) m_Chains_renew e 23 [.ref 117, .ref 14, .int (nI r), .int (nI s), zD] [] h1 Q := by
    intro r hr Kn j
    induction j with
    | zero =>
      intro s h1 hj hI
      have : s = N := by omega
      subst this
      obtain ⟨F, hF, f0, -⟩ := hI.1
      refine b_Chains_renew_23 ⟨F, hF, _, f0, ifT (Int32.le_refl _) ?_⟩
      rw [nI_1]
      refine Kn h1 ⟨hI.1, ?_, hI.2.2⟩
      obtain ⟨f', hf', hf2⟩ := hI.2.1
      exact ⟨f', hf', fun r' s' hr' hs' hor => hf2 r' s' hr' hs' (by omega)⟩
    | succ j ih =>
      intro s h1 hj hI
      have hs : s < N := by omega
      obtain ⟨F, hF, f0, f2, f3⟩ := hI.1
      obtain ⟨f', hf', -⟩ := hI.2.1
      refine b_Chains_renew_23 ⟨F, hF, _, f0, ifF (nI_ge hs (by omega)) (ifB (fun c => ?_) (fun c => ?_))⟩
      · have ers := (nI_eq (by omega) (by omega)).mp c
        refine b_Chains_renew_41 ⟨F, hF, _, f2, ifT rfl ⟨49, f', hf', ?_⟩⟩
        rw [ix7, nI_1, nI_clamp (by omega)]
        refine ⟨zIn_nI (by omega) (by decide), ?_⟩
        rintro h5 rfl
        have := put h1 r s f' hI hr hs hf'
        rw [show enW (wtN S l q r s) = -4 by unfold wtN csN kdB enW; simp [ers]] at this
        exact ih (s + 1) _ (by omega) this
      · have hrs : r ≠ s := fun q => c (by rw [q])
        have hb1 := hb.fr hI.2.2.2 (by omega) (by omega)
        refine b_Chains_renew_41 ⟨F, hF, _, f2, ifF (by decide) ⟨hI.2.2.1.1.1.imp fun _ w => w.1, cW_lineOf hb1 hI.2.2.1 hS hq hnw (by omega) (by omega) (fun h2 F2 K0 hw2 hf2 hF2 hK2 f11 hR => ⟨_, rfl, cC_weightOf hF2 hR hS hq hl hl2 (by omega) (by omega) hrs ⟨_, rfl, 49, f', by rw [hf2 _ (by omega)]; exact hf', ?_⟩⟩)⟩⟩
        rw [ix7, nI_1, nI_clamp (by omega)]
        refine ⟨zIn_nI (by omega) (by decide), ?_⟩
        rintro h5 rfl
        have hI2 : I h2 r s := by
          obtain ⟨⟨G, hG, g1⟩, ⟨k, hk, hk2⟩, hw1, hfr⟩ := hI
          exact ⟨⟨G, by rw [hf2 _ (by omega)]; exact hG, g1⟩, ⟨k, by rw [hf2 _ (by omega)]; exact hk, hk2⟩, hw2, hfr.trans (hf2.sub (fun z hz => by omega))⟩
        exact ih (s + 1) _ (by omega) (put h2 r s f' hI2 hr hs (by rw [hf2 _ (by omega)]; exact hf'))
  have outer : ∀ j r h1, r + j = N → I h1 r 0 → zW (d + 5) m_Chains_renew e 13 [.ref 117, .ref 14, .int (nI r), zD, zD] [] h1 Q := by
    intro j
    induction j with
    | zero =>
      intro r h1 hj hI
      have : r = N := by omega
      subst this
      obtain ⟨⟨F, hF, f0, f2, f3⟩, ⟨f', hf', hf2⟩, hw1, hfr⟩ := hI
      refine b_Chains_renew_13 ⟨F, hF, _, f0, ifT (Int32.le_refl _) (K h1 hw1 ⟨⟨F, hF, f0, f2, f3⟩, f', hf', fun r' s' hr' hs' => ?_⟩ ⟨⟨F, hF, f2, f3⟩, ⟨f', hf'⟩, g, by rw [hfr _ (by omega)]; exact hg⟩ hfr)⟩
      rw [hf2 r' s' hr' hs' (Or.inl hr')]
      unfold wtW
      rw [if_pos ⟨hr', hs'⟩]
    | succ j ih =>
      intro r h1 hj hI
      obtain ⟨F, hF, f0, -⟩ := hI.1
      exact b_Chains_renew_13 ⟨F, hF, _, f0, ifF (nI_ge (by omega) (by omega)) (inner r (by omega) (fun h2 hI2 => ih (r + 1) h2 (by omega) hI2) N 0 h1 (by omega) hI)⟩
  have h117 : zFr (fun z => z = 117) h (zP h 117 (zO 1 (zU F 0 (.int (nI N))))) := zFr.put rfl
  refine outer N 0 _ (by omega) ⟨⟨_, zP_same _ _ _, rfl, f2, f3⟩, ⟨f, (zP_ne _ _ (by decide)).trans hf, fun r' s' _ _ hor => by omega⟩, hw.fr h117 (fun z hz => by omega), h117.sub (fun z hz => by omega)⟩
/-- r reaches s -/
def rcB (w : Nat → Nat → Nat) (N r s : Nat) : Bool := decide (bfD w N s 6 r < bI)
theorem cC_reaches (hc : clA h w N) (hc2 : chO h) (hw : wOK w) (hN : N ≤ 7) (hr : r < N) (hs : s < N) (K : ∀ h', cwA h' w N s (bfD w N s 6) → zFr (fun z => z = 117 ∨ z = 119) h h' → Q (some (.int (b01 (rcB w N r s)))) h') : zW (d + 4) m_Chains_reaches e 0 [.ref 117, .int (nI r), .int (nI s)] [] h Q := by
  obtain ⟨g, hg⟩ := hc2.2.2
  refine b_Chains_reaches_0 ⟨hc.1.imp fun _ w => w.1, cC_aimAt hc hg hw hN hs (fun h' hc' hf' => ⟨rfl, hc'.1.imp fun _ w => w.1, cC_reachesAim hc' (hp_bf hw hN hs 6) hN hr ⟨_, rfl, ?_, K h' hc' hf'⟩⟩)⟩
  unfold b01
  split
  · exact Or.inr rfl
  · exact Or.inl rfl
theorem cC_reachedFrom (hc : clA h w N) (hc2 : chO h) (hw : wOK w) (hN : N ≤ 7) (hr : r < N) (K : ∀ h', clA h' w N → chO h' → zFr (fun z => z = 117 ∨ z = 119) h h' → Q (some (.int (nI (cnL (rcB w N r) N)))) h') : zW (d + 5) m_Chains_reachedFrom e 0 [.ref 117, .int (nI r), zD, zD] [] h Q := by
  refine b_Chains_reachedFrom_0 ?_
  have key : ∀ j s h1, s + j = N → clA h1 w N → chO h1 → zFr (fun z => z = 117 ∨ z = 119) h h1 → zW (d + 5) m_Chains_reachedFrom e 4 [.ref 117, .int (nI r), .int (nI (cnL (rcB w N r) s)), .int (nI s)] [] h1 Q := by
    intro j
    induction j with
    | zero =>
      intro s h1 hj a1 a2 a3
      have : s = N := by omega
      subst this
      obtain ⟨F, hF, f0, -⟩ := a1.1
      exact b_Chains_reachedFrom_4 ⟨F, hF, _, f0, ifT (Int32.le_refl _) (K h1 a1 a2 a3)⟩
    | succ j ih =>
      intro s h1 hj a1 a2 a3
      obtain ⟨F, hF, f0, -⟩ := a1.1
      refine b_Chains_reachedFrom_4 ⟨F, hF, _, f0, ifF (nI_ge (by omega) (by omega)) ⟨⟨F, hF⟩, cC_reaches a1 a2 hw hN hr (by omega) (fun h2 b1 b2 => ⟨_, rfl, ?_⟩)⟩⟩
      have := ih (s + 1) h2 (by omega) b1.cl b1.ch (a3.trans b2)
      rw [nI_1]
      cases c : rcB w N r s with
      | true =>
        rw [cnL_s1 c] at this
        rw [nI_1]
        exact ifF (by decide) this
      | false =>
        rw [cnL_s0 c] at this
        exact ifT (by decide) this
  exact key N 0 h (by omega) hc hc2 zFr.rf
/-- r is another than s, and reaches it -/
def rpB (w : Nat → Nat → Nat) (N s r : Nat) : Bool := decide (r ≠ s) && rcB w N r s
theorem cC_reachingPairs (hc : clA h w N) (hc2 : chO h) (hw : wOK w) (hN : N ≤ 7) (K : ∀ h', clA h' w N → chO h' → zFr (fun z => z = 117 ∨ z = 119) h h' → Q (some (.int (nI (cnP (rpB w N) N N)))) h') : zW (d + 5) m_Chains_reachingPairs e 0 [.ref 117, zD, zD, zD] [] h Q := by
  refine b_Chains_reachingPairs_0 ?_
  have inner : ∀ s, s < N → (∀ h2, clA h2 w N → chO h2 → zFr (fun z => z = 117 ∨ z = 119) h h2 → zW (d + 5) m_Chains_reachingPairs e 4 [.ref 117, .int (nI (cnP (rpB w N) N (s + 1))), .int (nI (s + 1)), zD] [] h2 Q) → ∀ j r h1, r + j = N → cwA h1 w N s (bfD w N s 6) → zFr (fun z => z = 117 ∨ z = 119) h h1 → zW (d + 5) m_Chains_reachingPairs e 19 [.ref 117, .int (nI (cnP (rpB w N) N s + cnL (rpB w N s) r)), .int (nI s), .int (nI r)] [] h1 Q := by
    intro s hs Kn j
    induction j with
    | zero =>
      intro r h1 hj a1 a3
      have : r = N := by omega
      subst this
      obtain ⟨F, hF, f0, -⟩ := a1.1
      refine b_Chains_reachingPairs_19 ⟨F, hF, _, f0, ifT (Int32.le_refl _) ?_⟩
      rw [nI_1]
      exact Kn h1 a1.cl a1.ch a3
    | succ j ih =>
      intro r h1 hj a1 a3
      obtain ⟨F, hF, f0, -⟩ := a1.1
      have := ih (r + 1) h1 (by omega) a1 a3
      refine b_Chains_reachingPairs_19 ⟨F, hF, _, f0, ifF (nI_ge (by omega) (by omega)) (ifB (fun c => ?_) (fun c => ⟨⟨F, hF⟩, cC_reachesAim a1 (hp_bf hw hN hs 6) hN (by omega) ⟨_, rfl, ?_⟩⟩))⟩
      · have ers := (nI_eq (by omega) (by omega)).mp c
        rw [cnL_s0 (by unfold rpB; simp [ers])] at this
        rw [nI_1]
        exact this
      · have ers : r ≠ s := fun q => c (by rw [q])
        rw [nI_1]
        cases c2 : decide (bfD w N s 6 r < bI) with
        | true =>
          rw [cnL_s1 (by unfold rpB rcB; rw [c2]; simp [ers])] at this
          rw [nI_1]
          exact ifF (by decide) this
        | false =>
          rw [cnL_s0 (by unfold rpB rcB; rw [c2]; simp)] at this
          exact ifT (by decide) this
  have outer : ∀ j s h1, s + j = N → clA h1 w N → chO h1 → zFr (fun z => z = 117 ∨ z = 119) h h1 → zW (d + 5) m_Chains_reachingPairs e 4 [.ref 117, .int (nI (cnP (rpB w N) N s)), .int (nI s), zD] [] h1 Q := by
    intro j
    induction j with
    | zero =>
      intro s h1 hj a1 a2 a3
      have : s = N := by omega
      subst this
      obtain ⟨F, hF, f0, -⟩ := a1.1
      exact b_Chains_reachingPairs_4 ⟨F, hF, _, f0, ifT (Int32.le_refl _) (K h1 a1 a2 a3)⟩
    | succ j ih =>
      intro s h1 hj a1 a2 a3
      obtain ⟨F, hF, f0, -⟩ := a1.1
      obtain ⟨g, hg⟩ := a2.2.2
      exact b_Chains_reachingPairs_4 ⟨F, hF, _, f0, ifF (nI_ge (by omega) (by omega)) ⟨⟨F, hF⟩, cC_aimAt a1 hg hw hN (by omega) (fun h2 b1 b2 => ⟨rfl, inner s (by omega) (fun h3 c1 c2 c3 => ih (s + 1) h3 (by omega) c1 c2 c3) N 0 h2 (by omega) b1 (a3.trans b2)⟩)⟩⟩
  exact outer N 0 h (by omega) hc hc2 zFr.rf
end C
end
section
/-! 64 bits: when a result does not fit -/
def inR (x : Int) : Bool := decide (-9223372036854775808 ≤ x ∧ x < 9223372036854775808)
def mulO (a b : Int64) : Bool := !inR (a.toInt * b.toInt)
def addO (a b : Int64) : Bool := !inR (a.toInt + b.toInt)
def subO (a b : Int64) : Bool := !inR (a.toInt - b.toInt)
theorem inR_t {x : Int} : inR x = true ↔ -9223372036854775808 ≤ x ∧ x < 9223372036854775808 := decide_eq_true_iff
theorem i64_rg (x : Int64) : -9223372036854775808 ≤ x.toInt ∧ x.toInt < 9223372036854775808 := ⟨Int64.le_toInt x, Int64.toInt_lt x⟩
theorem bm_in {x : Int} (h : -9223372036854775808 ≤ x ∧ x < 9223372036854775808) : x.bmod (2 ^ 64) = x := Int.bmod_eq_of_le_mul_two (by omega) (by omega)
theorem bm_rg (x : Int) : ∃ k : Int, x.bmod (2 ^ 64) = x + 18446744073709551616 * k ∧ -9223372036854775808 ≤ x.bmod (2 ^ 64) ∧ x.bmod (2 ^ 64) < 9223372036854775808 := by
  have h1 : -((2 ^ 64 : Nat) : Int) / 2 ≤ x.bmod (2 ^ 64) := by
    have := Int.le_bmod (x := x) (m := 2 ^ 64) (by decide)
    omega
  have h2 : x.bmod (2 ^ 64) < (((2 ^ 64 : Nat) : Int) + 1) / 2 := Int.bmod_lt (by decide)
  have h3 := Int.bmod_add_bdiv x (2 ^ 64)
  refine ⟨-(x.bdiv (2 ^ 64)), ?_, ?_, ?_⟩
  · have e : ((2 ^ 64 : Nat) : Int) = 18446744073709551616 := by decide
    rw [e] at h3
    rw [Int.mul_neg]
    omega
  · have e : -((2 ^ 64 : Nat) : Int) / 2 = -9223372036854775808 := by decide
    omega
  · have e : (((2 ^ 64 : Nat) : Int) + 1) / 2 = 9223372036854775808 := by decide
    omega
theorem tdiv_id (x y : Int) (hy : y ≠ 0) : ∃ t, x = x.tdiv y * y + t ∧ t.natAbs < y.natAbs ∧ (0 ≤ x → 0 ≤ t) ∧ (x ≤ 0 → t ≤ 0) := by
  refine ⟨x.tmod y, ?_, ?_, fun h => Int.tmod_nonneg _ h, fun h => ?_⟩
  · have := Int.tmod_add_tdiv_mul x y; omega
  · rw [Int.natAbs_tmod]
    exact Nat.mod_lt _ (by omega)
  · have := Int.tmod_nonneg (a := -x) y (by omega)
    rw [Int.neg_tmod] at this
    omega
theorem tdiv_abs (x y : Int) : (x.tdiv y).natAbs ≤ x.natAbs := by
  rw [Int.natAbs_tdiv]
  exact Nat.div_le_self _ _
/-- dividing tells whether a product fits -/
theorem mul_div {a b : Int64} (hb : b.toInt ≠ 0) (hq : (a * b).toInt.tdiv b.toInt ≠ 9223372036854775808) : (a * b) / b = a ↔ mulO a b = false := by
  have hp := i64_rg (a * b)
  have ha := i64_rg a
  have hbr := i64_rg b
  have hqa := tdiv_abs (a * b).toInt b.toInt
  have ed : ((a * b) / b).toInt = (a * b).toInt.tdiv b.toInt := by
    rw [Int64.toInt_div]
    exact bm_in (by omega)
  obtain ⟨t, t1, t2, -, -⟩ := tdiv_id (a * b).toInt b.toInt hb
  obtain ⟨k, k1, -⟩ := bm_rg (a.toInt * b.toInt)
  rw [← Int64.toInt_mul] at k1
  have e1 : (a * b) / b = a ↔ (a * b).toInt.tdiv b.toInt = a.toInt := by
    rw [← Int64.toInt_inj, ed]
  rw [e1]
  unfold mulO
  rw [Bool.not_eq_false', inR_t]
  constructor
  · intro q
    rw [q] at t1
    omega
  · intro q
    have e2 : (a * b).toInt = a.toInt * b.toInt := by rw [Int64.toInt_mul]; exact bm_in q
    rw [e2]
    exact Int.mul_tdiv_cancel _ hb
theorem mulO_comm (a b : Int64) : mulO a b = mulO b a := by
  unfold mulO
  rw [Int.mul_comm]
theorem mulO_0 {a b : Int64} (h : b.toInt = 0) : mulO a b = false := by
  unfold mulO
  rw [h, Int.mul_zero]
  decide
/-- when the quotient of a product is the one that does not fit -/
theorem mul_ex {a b : Int64} (hq : (a * b).toInt.tdiv b.toInt = 9223372036854775808) : b.toInt = -1 ∧ a.toInt = -9223372036854775808 := by
  have hp := i64_rg (a * b)
  have ha := i64_rg a
  have hqa : ((a * b).toInt.tdiv b.toInt).natAbs = (a * b).toInt.natAbs / b.toInt.natAbs := Int.natAbs_tdiv (a * b).toInt b.toInt
  rw [hq] at hqa
  have hb1 : b.toInt.natAbs = 1 := by
    have e0 : (9223372036854775808 : Int).natAbs = 9223372036854775808 := by decide
    rw [e0] at hqa
    have h1 : (a * b).toInt.natAbs ≤ 9223372036854775808 := by omega
    have h2 := Nat.div_mul_le_self (a * b).toInt.natAbs b.toInt.natAbs
    rw [← hqa] at h2
    rcases Nat.lt_or_ge b.toInt.natAbs 2 with c | c
    · rcases Nat.eq_zero_or_pos b.toInt.natAbs with c2 | c2
      · rw [c2, Nat.div_zero] at hqa; omega
      · omega
    · have := Nat.mul_le_mul_left 9223372036854775808 c
      omega
  have hb2 : b.toInt = 1 ∨ b.toInt = -1 := by omega
  rcases hb2 with c | c
  · rw [c, Int.tdiv_one] at hq; omega
  · refine ⟨c, ?_⟩
    obtain ⟨k, k1, k2, k3⟩ := bm_rg (a.toInt * b.toInt)
    rw [← Int64.toInt_mul] at k1 k2 k3
    rw [c] at hq
    have : (a * b).toInt.tdiv (-1) = -(a * b).toInt := by rw [Int.tdiv_neg, Int.tdiv_one]
    rw [c] at k1
    omega
theorem i64_neg {x : Int64} : x.toInt < 0 ↔ x.toBitVec.msb = true := by
  show x.toBitVec.toInt < 0 ↔ _
  rw [BitVec.msb_eq_toInt, decide_eq_true_iff]
theorem sg_xor (x y : Int64) : (x ^^^ y).toInt < 0 ↔ ¬ (x.toInt < 0 ↔ y.toInt < 0) := by
  rw [i64_neg, i64_neg, i64_neg, Int64.toBitVec_xor, BitVec.msb_xor]
  cases x.toBitVec.msb <;> cases y.toBitVec.msb <;> decide
theorem sg_and (x y : Int64) : (x &&& y).toInt < 0 ↔ (x.toInt < 0 ∧ y.toInt < 0) := by
  rw [i64_neg, i64_neg, i64_neg, Int64.toBitVec_and, BitVec.msb_and, Bool.and_eq_true]
theorem add_ov (a b : Int64) : (((a ^^^ (a + b)) &&& (b ^^^ (a + b))).toInt < 0) ↔ addO a b = true := by
  have ha := i64_rg a
  have hb := i64_rg b
  obtain ⟨k, k1, k2, k3⟩ := bm_rg (a.toInt + b.toInt)
  rw [← Int64.toInt_add] at k1 k2 k3
  rw [sg_and, sg_xor, sg_xor]
  unfold addO inR
  rw [Bool.not_eq_true', decide_eq_false_iff_not]
  omega
theorem sub_ov (a b : Int64) : (((a ^^^ b) &&& (a ^^^ (a - b))).toInt < 0) ↔ subO a b = true := by
  have ha := i64_rg a
  have hb := i64_rg b
  obtain ⟨k, k1, k2, k3⟩ := bm_rg (a.toInt - b.toInt)
  rw [← Int64.toInt_sub] at k1 k2 k3
  rw [sg_and, sg_xor, sg_xor]
  unfold subO inR
  rw [Bool.not_eq_true', decide_eq_false_iff_not]
  omega
/-- to the nearest, of like ones up -/
def nrL (v y : Int64) : Int64 := if 0 ≤ (v - v / y * y).toInt then (if 2 * (v - v / y * y).toInt < y.toInt then v / y else v / y + 1) else (if 2 * ((v - v / y * y).toInt + y.toInt) < y.toInt then v / y - 1 else v / y - 1 + 1)
theorem nr_ok {v y : Int64} (hy : 0 < y.toInt) : ((v / y) * y).toInt = v.toInt - (v - v / y * y).toInt ∧ (v - v / y * y).toInt.natAbs < y.toInt.natAbs ∧ (0 ≤ v.toInt → 0 ≤ (v - v / y * y).toInt) ∧ (v.toInt ≤ 0 → (v - v / y * y).toInt ≤ 0) := by
  have hv := i64_rg v
  have hyr := i64_rg y
  obtain ⟨t, t1, t2, t3, t4⟩ := tdiv_id v.toInt y.toInt (by omega)
  have hqa := tdiv_abs v.toInt y.toInt
  have e1 : (v / y).toInt = v.toInt.tdiv y.toInt := by
    rw [Int64.toInt_div]
    have : v.toInt.tdiv y.toInt ≠ 9223372036854775808 := fun q => by
      rw [q] at t1
      have : 9223372036854775808 * 1 ≤ 9223372036854775808 * y.toInt := Int.mul_le_mul_of_nonneg_left (by omega) (by decide)
      rcases Int.le_total 0 v.toInt with c | c
      · have := t3 c; omega
      · have := t4 c; omega
    exact bm_in (by omega)
  have e2 : ((v / y) * y).toInt = v.toInt - t := by
    rw [Int64.toInt_mul, e1, show v.toInt.tdiv y.toInt * y.toInt = v.toInt - t by omega]
    refine bm_in ?_
    rcases Int.le_total 0 v.toInt with c | c
    · have := t3 c; omega
    · have := t4 c; omega
  have e3 : (v - v / y * y).toInt = t := by
    rw [Int64.toInt_sub, e2, show v.toInt - (v.toInt - t) = t by omega]
    exact bm_in (by omega)
  rw [e2, e3]
  exact ⟨rfl, t2, t3, t4⟩
end
section
/-! Time -/
def tmA (h : zH) (v : Int64) (b : Bool) : Prop := ∃ F, h.2 123 = zO 7 F ∧ F 0 = .long v ∧ F 1 = .int (b01 b)
theorem b01_01 (b : Bool) : b01 b = 0 ∨ b01 b = 1 := by cases b <;> decide
section C
variable {d : Nat} {e : Nat × Nat} {h : zH} {Q : zQ} {v a b : Int64} {o : Bool}
theorem tmA.put {F : Nat → Value} (hF : h.2 123 = zO 7 F) (h0 : F 0 = .long v) : tmA (zP h 123 (zO 7 (zU F 1 (.int 1)))) v true := ⟨_, zP_same _ _ _, h0, rfl⟩
theorem cX_startAt (ht : ∃ F, h.2 123 = zO 7 F) (K : ∀ h', tmA h' v false → zFr (fun z => z = 123) h h' → Q none h') : zW (d + 1) m_Time_startAt e 0 [.ref 123, .long v, zD] [] h Q := by
  obtain ⟨F, hF⟩ := ht
  refine b_Time_startAt_0 ⟨F, hF, ?_⟩
  rintro h2 rfl
  refine ⟨by decide, _, zP_same _ _ _, ?_⟩
  rintro h4 rfl
  rw [zP_zP]
  exact K _ ⟨_, zP_same _ _ _, rfl, rfl⟩ (zFr.put rfl)
theorem cX_product (ht : tmA h v o) (ha : bd a 51189760512) (K : ∀ h', tmA h' v (o || mulO a b) → zFr (fun z => z = 123) h h' → Q (some (.long (a * b))) h') : zW (d + 1) m_Time_product e 0 [.ref 123, .long a, zD, .long b, zD, zD, zD] [] h Q := by
  obtain ⟨F, hF, f0, f1⟩ := id ht
  refine b_Time_product_0 (ifB (fun c => ?_) (fun c => ?_))
  · have hb : b.toInt = 0 := by rw [lc_eq.mp c]; rfl
    rw [mulO_0 hb, Bool.or_false] at K
    exact K h ht zFr.rf
  · have hb0 : b ≠ 0 := fun q => c (lc_eq.mpr q)
    have hb : b.toInt ≠ 0 := fun q => hb0 (Int64.toInt_inj.mp (by rw [q]; rfl))
    have hm := mul_div (a := a) hb (fun q => by have := (mul_ex q).2; unfold bd at ha; omega)
    refine ⟨hb0, ifB (fun c2 => ?_) (fun c2 => ⟨by decide, F, hF, ?_⟩)⟩
    · rw [hm.mp (lc_eq.mp c2), Bool.or_false] at K
      exact K h ht zFr.rf
    · rintro h2 rfl
      have : mulO a b = true := by
        cases q : mulO a b with
        | true => rfl
        | false => exact absurd (lc_eq.mpr (hm.mpr q)) c2
      rw [this, Bool.or_true] at K
      exact K _ (tmA.put hF f0) (zFr.put rfl)
theorem cX_total (ht : tmA h v o) (K : ∀ h', tmA h' v (o || addO a b) → zFr (fun z => z = 123) h h' → Q (some (.long (a + b))) h') : zW (d + 1) m_Time_total e 0 [.ref 123, .long a, zD, .long b, zD, zD, zD] [] h Q := by
  obtain ⟨F, hF, f0, f1⟩ := id ht
  have hm := add_ov a b
  refine b_Time_total_0 (ifB (fun c => ?_) (fun c => ⟨by decide, F, hF, ?_⟩))
  · have c' := Int64.le_iff_toInt_le.mp (lc_ge.mp c)
    have : addO a b = false := by
      cases q : addO a b with
      | false => rfl
      | true => have := hm.mpr q; rw [Int64.toInt_zero] at c'; omega
    rw [this, Bool.or_false] at K
    exact K h ht zFr.rf
  · rintro h2 rfl
    have : addO a b = true := hm.mp (by
      have c' := mt lc_ge.mpr c
      rw [Int64.le_iff_toInt_le, Int64.toInt_zero] at c'
      omega)
    rw [this, Bool.or_true] at K
    exact K _ (tmA.put hF f0) (zFr.put rfl)
theorem cX_difference (ht : tmA h v o) (K : ∀ h', tmA h' v (o || subO a b) → zFr (fun z => z = 123) h h' → Q (some (.long (a - b))) h') : zW (d + 1) m_Time_difference e 0 [.ref 123, .long a, zD, .long b, zD, zD, zD] [] h Q := by
  obtain ⟨F, hF, f0, f1⟩ := id ht
  have hm := sub_ov a b
  refine b_Time_difference_0 (ifB (fun c => ?_) (fun c => ⟨by decide, F, hF, ?_⟩))
  · have c' := Int64.le_iff_toInt_le.mp (lc_ge.mp c)
    have : subO a b = false := by
      cases q : subO a b with
      | false => rfl
      | true => have := hm.mpr q; rw [Int64.toInt_zero] at c'; omega
    rw [this, Bool.or_false] at K
    exact K h ht zFr.rf
  · rintro h2 rfl
    have : subO a b = true := hm.mp (by
      have c' := mt lc_ge.mpr c
      rw [Int64.le_iff_toInt_le, Int64.toInt_zero] at c'
      omega)
    rw [this, Bool.or_true] at K
    exact K _ (tmA.put hF f0) (zFr.put rfl)
theorem cX_subtract (ht : tmA h v o) (K : ∀ h', tmA h' (v - a) (o || subO v a) → zFr (fun z => z = 123) h h' → Q none h') : zW (d + 2) m_Time_subtract e 0 [.ref 123, .long a, zD] [] h Q := by
  obtain ⟨F, hF, f0, f1⟩ := id ht
  refine b_Time_subtract_0 ⟨F, hF, _, f0, ⟨F, hF⟩, cX_difference ht (fun h' ht' hf' => ?_)⟩
  obtain ⟨F', hF', g0, g1⟩ := ht'
  refine ⟨_, rfl, F', hF', ?_⟩
  rintro h7 rfl
  exact K _ ⟨_, zP_same _ _ _, rfl, g1⟩ (hf'.trans (zFr.put rfl))
theorem i64_ne0 {y : Int64} (hy : 0 < y.toInt) : y ≠ 0 := fun q => by rw [q] at hy; exact absurd hy (by decide)
theorem cX_nearest (hy : 0 < b.toInt) (hB : bd b 819036168192) (K : Q (some (.long (nrL a b))) h) : zW (d + 2) m_Time_nearest e 0 [.long a, zD, .long b, zD, zD, zD, zD, zD] [] h Q := by
  obtain ⟨n1, n2, n3, n4⟩ := nr_ok (v := a) hy
  have hb0 := i64_ne0 hy
  have cm : ∀ {x : Int64} {z : Int}, x.toInt = z → 0 ≤ z → z < b.toInt → ((lg_cmp x (b - x)) < 0 ↔ 2 * z < b.toInt) := fun {x z} e1 h1 h2 => by
    have hx : bd x 819036168192 := by unfold bd at hB ⊢; omega
    rw [lc_lt, Int64.lt_iff_toInt_lt, (bd_sub hB hx (by decide)).1]
    omega
  have fin : ∀ {x q : Int64} {z : Int}, x.toInt = z → 0 ≤ z → z < b.toInt → Q (some (.long (if 2 * z < b.toInt then q else q + 1))) h → ∃ x6, (some (.long x) : Option Value) = some (.long x6) ∧ (if (lg_cmp x6 (b - x6)) < 0 then Q (some (.long q)) h else Q (some (.long (q + 1))) h) := fun {x q z} e1 h1 h2 k => by
    refine ⟨x, rfl, ?_⟩
    by_cases c : 2 * z < b.toInt
    · rw [if_pos c] at k
      exact ifT ((cm e1 h1 h2).mpr c) k
    · rw [if_neg c] at k
      exact ifF (fun q => c ((cm e1 h1 h2).mp q)) k
  have sgn := sg_xor a b
  refine b_Time_nearest_0 (ifT (lc_gt.mpr (Int64.lt_iff_toInt_lt.mpr hy)) (b_JMath_floorDiv_0 ⟨hb0, ?_⟩))
  unfold nrL at K
  refine ifB (fun c => ?_) (fun c => ?_)
  · have c' := Int64.le_iff_toInt_le.mp (lc_ge.mp c)
    rw [Int64.toInt_zero] at c'
    have hr := n3 (by omega)
    rw [if_pos hr] at K
    refine ⟨_, rfl, b_JMath_floorMod_0 ⟨hb0, ifT c ?_⟩⟩
    refine fin rfl hr (by omega) ?_
    split at K
    · rename_i q; rw [if_pos q]; exact K
    · rename_i q; rw [if_neg q]; exact K
  · have c' := mt lc_ge.mpr c
    rw [Int64.le_iff_toInt_le, Int64.toInt_zero] at c'
    have hr := n4 (by omega)
    refine ifB (fun c2 => ?_) (fun c2 => ?_)
    · have e1 := congrArg Int64.toInt (lc_eq.mp c2)
      have e2 : (a - a / b * b).toInt = 0 := by omega
      rw [if_pos (by omega), e2] at K
      refine ⟨_, rfl, b_JMath_floorMod_0 ⟨hb0, ifF c (ifT (lc_eq.mpr (Int64.toInt_inj.mp (by rw [e2]; rfl))) ?_)⟩⟩
      refine fin e2 (by omega) (by omega) ?_
      split at K
      · rename_i q; rw [if_pos q]; exact K
      · rename_i q; rw [if_neg q]; exact K
    · have e2 : (a - a / b * b).toInt ≠ 0 := fun q => c2 (lc_eq.mpr (Int64.toInt_inj.mp (by omega)))
      rw [if_neg (by omega)] at K
      refine ⟨_, rfl, b_JMath_floorMod_0 ⟨hb0, ifF c (ifF (fun q => e2 (by rw [lc_eq.mp q]; rfl)) ?_)⟩⟩
      have hrb : bd (a - a / b * b) 819036168192 := by unfold bd at hB ⊢; omega
      have e3 := (bd_add hrb hB (by decide)).1
      refine fin (x := a - a / b * b + b) (z := (a - a / b * b).toInt + b.toInt) e3 (by omega) (by omega) ?_
      split at K
      · rename_i q; rw [if_pos q]; exact K
      · rename_i q; rw [if_neg q]; exact K
end C
/-- a time is taken by a line: what it is then, and whether something did not fit -/
def tkA (S : Nat → Int32) (r : Nat) (L : Nat → Bool) (v : Int64) : Int64 := lN (cnL L 16) * v - 256 * lX S r L
def tkB (S : Nat → Int32) (r s : Nat) (L : Nat → Bool) (v : Int64) : Int64 := lxy S r s L * tkA S r L v + 256 * lX S s L * lxx S r L
def tkV (S : Nat → Int32) (r s : Nat) (L : Nat → Bool) (v : Int64) : Int64 := nrL (tkB S r s L v) (lden S r L)
def tkO (S : Nat → Int32) (r s : Nat) (L : Nat → Bool) (v : Int64) : Bool := ((mulO (lN (cnL L 16)) v || subO (lN (cnL L 16) * v) (256 * lX S r L)) || mulO (lxy S r s L) (tkA S r L v)) || addO (lxy S r s L * tkA S r L v) (256 * lX S s L * lxx S r L)
section C
variable {d : Nat} {e : Nat × Nat} {h : zH} {Q : zQ} {v : Int64} {o : Bool} {S : Nat → Int32} {r s : Nat} {L : Nat → Bool}
theorem cX_takeBy {p : Nat} {F : Nat → Value} (hp : p ≠ 123) (ht : tmA h v o) (hF : h.2 p = zO 3 F) (hl : lnS F S r s L) (hS : StK S) (hr : r < 7) (hs : s < 7) (hL : PtL S r s L) (hn : 0 < cnL L 16) (hx : lxx S r L ≠ 0)
    (K : ∀ h', tmA h' (tkV S r s L v) (o || tkO S r s L v) → zFr (fun z => z = 123) h h' → Q none h') : zW (d + 3) m_Time_takeBy e 0 [.ref 123, .ref p, zD, zD, zD, zD] [] h Q := by
  obtain ⟨l2, l3, l4, l5, l6, l7⟩ := hl
  have hL1 : ∀ b, b < 16 → L b = true → S (16 * r + b) ≠ -4 := fun b hb h => (hL b hb h).1
  obtain ⟨T0, hT0, t0, -⟩ := id ht
  refine b_Time_takeBy_0 ⟨F, hF, _, l2, T0, hT0, _, t0, ⟨T0, hT0⟩, ?_⟩
  rw [nI_l (by have := cnL_le L 16; omega)]
  refine cX_product ht (cn16.1.mono (by decide)) (fun h1 ht1 hf1 => ?_)
  have hF1 : h1.2 p = zO 3 F := by rw [hf1 _ hp]; exact hF
  refine ⟨_, rfl, F, hF1, _, l3, ht1.imp fun _ q => q.1, cX_difference ht1 (fun h2 ht2 hf2 => ?_)⟩
  have hF2 : h2.2 p = zO 3 F := by rw [hf2 _ hp]; exact hF1
  refine ⟨_, rfl, F, hF2, _, l6, ht2.imp fun _ q => q.1, cX_product ht2 (lxy_bd hS hr hs hL) (fun h3 ht3 hf3 => ?_)⟩
  have hF3 : h3.2 p = zO 3 F := by rw [hf3 _ hp]; exact hF2
  refine ⟨_, rfl, F, hF3, _, l4, F, hF3, _, l5, ht3.imp fun _ q => q.1, cX_total ht3 (fun h4 ht4 hf4 => ?_)⟩
  have hF4 : h4.2 p = zO 3 F := by rw [hf4 _ hp]; exact hF3
  refine ⟨_, rfl, F, hF4, _, l7, cX_nearest (lden_pos hS hr hL1 hn hx) (lden_ok hS hr hL1).1 ?_⟩
  obtain ⟨T, hT, u0, u1⟩ := ht4
  refine ⟨_, rfl, T, hT, ?_⟩
  rintro h5 rfl
  refine K _ ⟨_, zP_same _ _ _, rfl, ?_⟩ ((((hf1.trans hf2).trans hf3).trans hf4).trans (zFr.put rfl))
  show T 1 = _
  rw [u1]
  unfold tkO
  simp only [Bool.or_assoc]
  rfl
/-! the Model's way -/
theorem cM_times {p : Nat} {G : Nat → Value} {a b : Int64} (hG : h.2 p = zO 10 G) (g : G 31 = .int (b01 o)) (K : Q (some (.long (a * b))) (zP h p (zO 10 (zU G 31 (.int (b01 (o || mulO a b))))))) : zW (d + 1) m_Mo_times e 0 [.ref p, .long a, zD, .long b, zD, zD, zD] [] h Q := by
  refine b_Mo_times_0 ⟨G, hG, _, g, ?_⟩
  cases o with
  | true =>
    refine ifF (by decide) ⟨by decide, G, hG, ?_⟩
    rintro h1 rfl
    exact K
  | false =>
    rw [Bool.false_or] at K
    refine ifT rfl (ifB (fun c => ⟨by decide, G, hG, ?_⟩) (fun c => ?_))
    · rintro h1 rfl
      have ha : a.toInt = 0 := by rw [lc_eq.mp c]; rfl
      rw [mulO_comm, mulO_0 ha] at K
      exact K
    · have ha0 : a ≠ 0 := fun q => c (lc_eq.mpr q)
      have ha : a.toInt ≠ 0 := fun q => ha0 (Int64.toInt_inj.mp (by rw [q]; rfl))
      rw [mulO_comm] at K
      have ec : a * b = b * a := Int64.mul_comm _ _
      refine ⟨ha0, ?_⟩
      by_cases hq : (b * a).toInt.tdiv a.toInt = 9223372036854775808
      · obtain ⟨m1, m2⟩ := mul_ex hq
        have ea : a = -1 := Int64.toInt_inj.mp (by rw [m1]; rfl)
        have eb : b = -9223372036854775808 := Int64.toInt_inj.mp (by rw [m2]; rfl)
        subst ea
        subst eb
        rw [show mulO (-9223372036854775808) (-1) = true by decide] at K
        refine ifT (by decide) (ifT (by decide) (ifT (by decide) ⟨by decide, G, hG, ?_⟩))
        rintro h1 rfl
        exact K
      · have hm := mul_div (a := b) ha hq
        rw [← ec] at hm
        refine ifB (fun c2 => ?_) (fun c2 => ⟨by decide, G, hG, ?_⟩)
        · have q := lc_eq.mp c2
          rw [hm.mp q] at K
          refine ifB (fun c3 => ifB (fun c4 => ?_) (fun c4 => ⟨by decide, G, hG, ?_⟩)) (fun c3 => ⟨by decide, G, hG, ?_⟩)
          · exfalso
            have e1 := lc_eq.mp c3
            have e2 := lc_eq.mp c4
            rw [e1, e2] at hq
            exact hq (by decide)
          · rintro h1 rfl
            exact K
          · rintro h1 rfl
            exact K
        · rintro h1 rfl
          have : mulO b a = true := by
            cases q : mulO b a with
            | true => rfl
            | false => exact absurd (lc_eq.mpr (hm.mpr q)) c2
          rw [this] at K
          exact K
theorem cM_plus {p : Nat} {G : Nat → Value} {a b : Int64} (hG : h.2 p = zO 10 G) (g : G 31 = .int (b01 o)) (K : Q (some (.long (a + b))) (zP h p (zO 10 (zU G 31 (.int (b01 (o || addO a b))))))) : zW (d + 1) m_Mo_plus e 0 [.ref p, .long a, zD, .long b, zD, zD, zD] [] h Q := by
  refine b_Mo_plus_0 ⟨G, hG, _, g, ?_⟩
  cases o with
  | true =>
    refine ifF (by decide) ⟨by decide, G, hG, ?_⟩
    rintro h1 rfl
    exact K
  | false =>
    rw [Bool.false_or] at K
    have hm := add_ov a b
    refine ifT rfl (ifB (fun c => ⟨by decide, G, hG, ?_⟩) (fun c => ⟨by decide, G, hG, ?_⟩))
    · rintro h1 rfl
      have c' := Int64.le_iff_toInt_le.mp (lc_ge.mp c)
      rw [Int64.toInt_zero] at c'
      have : addO a b = false := by
        cases q : addO a b with
        | false => rfl
        | true => have := hm.mpr q; omega
      rw [this] at K
      exact K
    · rintro h1 rfl
      have c' := mt lc_ge.mpr c
      rw [Int64.le_iff_toInt_le, Int64.toInt_zero] at c'
      rw [hm.mp (by omega)] at K
      exact K
theorem cM_nearest {a b : Int64} (hy : 0 < b.toInt) (hB : bd b 819036168192) (K : Q (some (.long (nrL a b))) h) : zW (d + 1) m_Mo_nearest e 0 [.long a, zD, .long b, zD, zD, zD, zD, zD] [] h Q := by
  obtain ⟨n1, n2, n3, n4⟩ := nr_ok (v := a) hy
  have hb0 := i64_ne0 hy
  have c2 : bd (2 : Int64) 2 := by unfold bd; decide
  have e2 : (2 : Int64).toInt = 2 := by decide
  have hrb : bd (a - a / b * b) 819036168192 := by unfold bd at hB ⊢; omega
  have e3 := (bd_add hrb hB (by decide))
  have m1 := (bd_mul c2 hrb (by decide)).1
  have m2 := (bd_mul c2 e3.2 (by decide)).1
  rw [e2] at m1 m2
  rw [e3.1] at m2
  unfold nrL at K
  refine b_Mo_nearest_0 ⟨hb0, hb0, ifB (fun c => ?_) (fun c => ?_)⟩
  · have c' := Int64.le_iff_toInt_le.mp (lc_ge.mp c)
    rw [Int64.toInt_zero] at c'
    rw [if_pos c'] at K
    refine ifB (fun c3 => ?_) (fun c3 => ?_)
    · have := Int64.lt_iff_toInt_lt.mp (lc_lt.mp c3)
      rw [if_pos (by omega)] at K
      exact K
    · have := mt lc_lt.mpr c3
      rw [Int64.lt_iff_toInt_lt] at this
      rw [if_neg (by omega)] at K
      exact K
  · have c' := mt lc_ge.mpr c
    rw [Int64.le_iff_toInt_le, Int64.toInt_zero] at c'
    rw [if_neg c'] at K
    refine ifB (fun c3 => ?_) (fun c3 => ?_)
    · have := Int64.lt_iff_toInt_lt.mp (lc_lt.mp c3)
      rw [if_pos (by omega)] at K
      exact K
    · have := mt lc_lt.mpr c3
      rw [Int64.lt_iff_toInt_lt] at this
      rw [if_neg (by omega)] at K
      exact K
end C
end
section
/-! The Model: its lines -/
def mR (G : Nat → Value) : Prop := G 0 = .ref 140 ∧ G 1 = .ref 141 ∧ G 2 = .ref 142 ∧ G 3 = .ref 143 ∧ G 4 = .ref 144 ∧ G 22 = .ref 145 ∧ G 23 = .ref 146 ∧ G 25 = .ref 147 ∧ G 26 = .ref 148 ∧ G 27 = .ref 149 ∧ G 28 = .ref 150 ∧ G 34 = .ref 151 ∧ G 35 = .ref 152 ∧ G 36 = .ref 153 ∧ G 37 = .ref 154 ∧ G 38 = .ref 155
/-- what there is, in the Model -/
def msA (h : zH) (n l q : Int32) (S : Nat → Int32) : Prop := ∃ f, h.2 140 = zI 0 115 f ∧ f 0 = n ∧ f 1 = l ∧ f 2 = q ∧ ∀ k, k < 112 → f (3 + k) = S k
theorem msA.fr {A : Nat → Prop} {h h' : zH} {n l q : Int32} {S : Nat → Int32} (m : msA h n l q S) (f : zFr A h h') (hA : ¬ A 140) : msA h' n l q S := by
  obtain ⟨g, hg, q1⟩ := m
  exact ⟨g, by rw [f _ hA]; exact hg, q1⟩
/-- the points that are left, in the Model -/
def mpA (h : zH) (L : Nat → Bool) : Prop := ∃ p o, h.2 145 = zI 1 16 p ∧ h.2 146 = zI 0 16 o ∧ ∀ b, b < 16 → (p b = 0 ∨ p b = 1) ∧ L b = (decide (p b ≠ 0) && decide (o b = 0))
theorem mpA.fr {A : Nat → Prop} {h h' : zH} {L : Nat → Bool} (m : mpA h L) (f : zFr A h h') (h1 : ¬ A 145) (h2 : ¬ A 146) : mpA h' L := by
  obtain ⟨p, o, hp, ho, q⟩ := m
  exact ⟨p, o, by rw [f _ h1]; exact hp, by rw [f _ h2]; exact ho, q⟩
/-- the sums, in the Model -/
def mlS (G : Nat → Value) (S : Nat → Int32) (r s : Nat) (L : Nat → Bool) : Prop := G 15 = .long (lN (cnL L 16)) ∧ G 16 = .long (lX S r L) ∧ G 17 = .long (lX S s L) ∧ G 18 = .long (lxx S r L) ∧ G 19 = .long (lxy S r s L)
section C
variable {d : Nat} {e : Nat × Nat} {h : zH} {Q : zQ} {n l q : Int32} {S : Nat → Int32} {G : Nat → Value} {L : Nat → Bool} {r s b : Nat}
theorem ixM (r b : Nat) : 3 + 16 * nI r + nI b = nI (3 + (16 * r + b)) := by
  rw [show (16 : Int32) = nI 16 from rfl, show (3 : Int32) = nI 3 from rfl, pk_mul, nI_add, nI_add, Nat.add_assoc]
theorem cM_at (K : Q (some (.int (nI (3 + (16 * r + b))))) h) : zW (d + 1) m_Mo_at e 0 [.int (nI b), .int (nI r)] [] h Q := by
  refine b_Mo_at_0 ?_
  rw [ixM]
  exact K
theorem cM_den (hG : h.2 139 = zO 10 G) (hl : mlS G S r s L) (K : Q (some (.long (lden S r L))) h) : zW (d + 1) m_Mo_den e 0 [.ref 139] [] h Q := b_Mo_den_0 ⟨G, hG, _, hl.1, G, hG, _, hl.2.2.2.1, K⟩
theorem cM_sums (hG : h.2 139 = zO 10 G) (hR : mR G) (hm : msA h n l q S) (hp : mpA h L) (hr : r < 7) (hs : s < 7)
    (K : ∀ G', mlS G' S r s L → (∀ k, k < 15 ∨ 19 < k → G' k = G k) → Q none (zP h 139 (zO 10 G'))) : zW (d + 2) m_Mo_sums e 0 [.ref 139, .int (nI r), .int (nI s), zD, zD, zD, zD, zD, zD, zD, zD, zD] [] h Q := by
  refine b_Mo_sums_0 ⟨G, hG, ?_⟩
  rintro h2 rfl
  refine ⟨_, zP_same _ _ _, ?_⟩
  rintro h4 rfl
  rw [zP_zP]
  refine ⟨_, zP_same _ _ _, ?_⟩
  rintro h6 rfl
  rw [zP_zP]
  obtain ⟨st, hst, st0, st1, st2, st3⟩ := hm
  obtain ⟨p, o, hp1, ho1, hpo⟩ := hp
  have loop : ∀ k b (G1 : Nat → Value), b + k = 16 → G1 15 = .long (lN (cnL L b)) → G1 16 = .long (smL (pX S r) L b) → G1 17 = .long (smL (pX S s) L b) → (∀ k, k < 15 ∨ 19 < k → G1 k = G k) →
      zW (d + 2) m_Mo_sums e 23 [.ref 139, .int (nI r), .int (nI s), .long (smL (fun b => pX S r b * pX S r b) L b), zD, .long (smL (fun b => pX S r b * pX S s b) L b), zD, .int (nI b), zD, zD, zD, zD] [] (zP h 139 (zO 10 G1)) Q := by
    intro k
    induction k with
    | zero =>
      intro b G1 hk g1 g2 g3 go
      have : b = 16 := by omega
      subst this
      refine b_Mo_sums_23 (ifT (show nI 16 ≤ nI 16 from Int32.le_refl _) ⟨_, zP_same _ _ _, _, g1, _, zP_same _ _ _, _, g2, _, zP_same _ _ _, _, g2, _, zP_same _ _ _, ?_⟩)
      rintro h8 rfl
      rw [zP_zP]
      refine ⟨_, zP_same _ _ _, _, g1, _, zP_same _ _ _, _, g2, _, zP_same _ _ _, _, g3, _, zP_same _ _ _, ?_⟩
      rintro h16 rfl
      rw [zP_zP]
      refine K _ ⟨g1, g2, g3, rfl, rfl⟩ (fun j hj => ?_)
      rw [zU_ne _ _ (by omega), zU_ne _ _ (by omega)]
      exact go j hj
    | succ k ih =>
      intro b G1 hk g1 g2 g3 go
      have hb : b < 16 := by omega
      obtain ⟨p01, hL⟩ := hpo b hb
      have r0 : G1 0 = .ref 140 := (go 0 (by omega)).trans hR.1
      have r22 : G1 22 = .ref 145 := (go 22 (by omega)).trans hR.2.2.2.2.2.1
      have r23 : G1 23 = .ref 146 := (go 23 (by omega)).trans hR.2.2.2.2.2.2.1
      have no : L b = false → zW (d + 2) m_Mo_sums e 23 [.ref 139, .int (nI r), .int (nI s), .long (smL (fun b => pX S r b * pX S r b) L b), zD, .long (smL (fun b => pX S r b * pX S s b) L b), zD, .int (nI b + 1), zD, zD, zD, zD] [] (zP h 139 (zO 10 G1)) Q := fun c => by
        rw [nI_1]
        have e1 : ∀ g : Nat → Int64, smL g L (b + 1) = smL g L b := fun g => if_neg (by rw [c]; decide)
        have := ih (b + 1) G1 (by omega) (by rw [cnL_s0 c]; exact g1) (by rw [e1]; exact g2) (by rw [e1]; exact g3) go
        rw [e1, e1] at this
        exact this
      refine b_Mo_sums_23 (ifF (show ¬ nI 16 ≤ nI b from nI_ge (by omega) (by decide)) ⟨_, zP_same _ _ _, _, r22, 16, p, (zP_ne _ _ (by decide)).trans hp1, zIn_nI hb (by decide), ?_⟩)
      rw [nI_clamp (by omega)]
      refine ifB (fun c => no (by rw [hL]; simp [c])) (fun c => ⟨_, zP_same _ _ _, _, r23, 16, o, (zP_ne _ _ (by decide)).trans ho1, zIn_nI hb (by decide), ?_⟩)
      refine ifB (fun c2 => ⟨_, zP_same _ _ _, _, r0, cM_at ⟨_, rfl, 115, st, (zP_ne _ _ (by decide)).trans hst, zIn_nI (by omega) (by decide), ?_⟩⟩) (fun c2 => no (by rw [hL]; simp [c2]))
      rw [nI_clamp (by omega), st3 _ (by omega)]
      have cL : L b = true := by rw [hL]; simp [c, c2]
      refine b_Mo_sums_64 ⟨_, zP_same _ _ _, _, r0, cM_at ⟨_, rfl, 115, st, (zP_ne _ _ (by decide)).trans hst, zIn_nI (by omega) (by decide), _, zP_same _ _ _, _, g1, _, zP_same _ _ _, ?_⟩⟩
      rintro h11 rfl
      rw [zP_zP]
      refine ⟨_, zP_same _ _ _, _, g2, _, zP_same _ _ _, ?_⟩
      rintro h15 rfl
      rw [zP_zP]
      refine ⟨_, zP_same _ _ _, _, g3, _, zP_same _ _ _, ?_⟩
      rintro h19 rfl
      rw [zP_zP, nI_1, nI_clamp (by omega), st3 _ (by omega)]
      have e1 : ∀ g : Nat → Int64, smL g L (b + 1) = smL g L b + g b := fun g => if_pos cL
      have := ih (b + 1) (zU (zU (zU G1 15 (.long (lN (cnL L b) + 1))) 16 (.long (smL (pX S r) L b + pX S r b))) 17 (.long (smL (pX S s) L b + pX S s b))) (by omega) (by rw [cnL_s1 cL, ← lN_1]; rfl) (by rw [e1]; rfl) (by rw [e1]; rfl) (fun j hj => by rw [zU_ne _ _ (by omega), zU_ne _ _ (by omega), zU_ne _ _ (by omega)]; exact go j hj)
      rw [e1, e1] at this
      exact this
  refine loop 16 0 _ rfl rfl rfl rfl (fun j hj => ?_)
  rw [zU_ne _ _ (by omega), zU_ne _ _ (by omega), zU_ne _ _ (by omega)]
theorem cM_farOf (hG : h.2 139 = zO 10 G) (hR : mR G) (hm : msA h n l q S) (hl : mlS G S r s L) (hr : r < 7) (hs : s < 7) (hb : b < 16)
    (K : Q (some (.long (lfar S r s L b))) h) : zW (d + 2) m_Mo_farOf e 0 [.ref 139, .int (nI b), .int (nI r), .int (nI s), zD, zD] [] h Q := by
  obtain ⟨st, hst, st0, st1, st2, st3⟩ := hm
  obtain ⟨l1, l2, l3, l4, l5⟩ := hl
  refine b_Mo_farOf_0 ⟨G, hG, _, hR.1, cM_at ⟨_, rfl, 115, st, hst, zIn_nI (by omega) (by decide), G, hG, _, l1, G, hG, _, l4, G, hG, _, l3, G, hG, _, l4, G, hG, _, l5, G, hG, _, l1, G, hG, _, hR.1, cM_at ⟨_, rfl, 115, st, hst, zIn_nI (by omega) (by decide), G, hG, _, l2, ?_⟩⟩⟩
  rw [nI_clamp (by omega), nI_clamp (by omega), st3 _ (by omega), st3 _ (by omega), Int64.mul_assoc]
  unfold lfar abL at K
  show if 0 ≤ lg_cmp (lfr S r s L b) 0 then Q (some (.long (lfr S r s L b))) h else Q (some (.long (-(lfr S r s L b)))) h
  refine ifB (fun c => ?_) (fun c => ?_)
  · rw [if_pos (lc_ge.mp c)] at K; exact K
  · rw [if_neg (fun w => c (lc_ge.mpr w))] at K; exact K
theorem cM_findsFarthest (hG : h.2 139 = zO 10 G) (hR : mR G) (hm : msA h n l q S) (hp : mpA h L) (hl : mlS G S r s L) (hr : r < 7) (hs : s < 7)
    (K : ∀ G', G' 20 = .int (ffL S r s L 16).1 → G' 21 = .long (ffL S r s L 16).2 → (∀ k, k < 20 ∨ 21 < k → G' k = G k) → Q none (zP h 139 (zO 10 G'))) : zW (d + 3) m_Mo_findsFarthest e 0 [.ref 139, .int (nI r), .int (nI s), zD] [] h Q := by
  refine b_Mo_findsFarthest_0 ⟨G, hG, ?_⟩
  rintro h2 rfl
  refine ⟨_, zP_same _ _ _, ?_⟩
  rintro h4 rfl
  rw [zP_zP]
  obtain ⟨p, o, hp1, ho1, hpo⟩ := hp
  have loop : ∀ k b (G1 : Nat → Value), b + k = 16 → G1 20 = .int (ffL S r s L b).1 → G1 21 = .long (ffL S r s L b).2 → (∀ k, k < 20 ∨ 21 < k → G1 k = G k) →
      zW (d + 3) m_Mo_findsFarthest e 15 [.ref 139, .int (nI r), .int (nI s), .int (nI b)] [] (zP h 139 (zO 10 G1)) Q := by
    intro k
    induction k with
    | zero =>
      intro b G1 hk g1 g2 go
      have : b = 16 := by omega
      subst this
      exact b_Mo_findsFarthest_15 (ifT (show nI 16 ≤ nI 16 from Int32.le_refl _) (K G1 g1 g2 go))
    | succ k ih =>
      intro b G1 hk g1 g2 go
      have hb : b < 16 := by omega
      obtain ⟨p01, hL⟩ := hpo b hb
      have r0 : G1 0 = .ref 140 := (go 0 (by omega)).trans hR.1
      have r22 : G1 22 = .ref 145 := (go 22 (by omega)).trans hR.2.2.2.2.2.1
      have r23 : G1 23 = .ref 146 := (go 23 (by omega)).trans hR.2.2.2.2.2.2.1
      have far : ∀ (G2 : Nat → Value) {d' : Nat} {e' : Nat × Nat} {Q' : zQ}, (∀ k, k < 20 ∨ 21 < k → G2 k = G k) → Q' (some (.long (lfar S r s L b))) (zP h 139 (zO 10 G2)) → zW (d' + 2) m_Mo_farOf e' 0 [.ref 139, .int (nI b), .int (nI r), .int (nI s), zD, zD] [] (zP h 139 (zO 10 G2)) Q' := fun G2 d' e' Q' g K2 => by
        have hR2 : mR G2 := by
          unfold mR at hR ⊢
          rw [g 0 (by omega), g 1 (by omega), g 2 (by omega), g 3 (by omega), g 4 (by omega), g 22 (by omega), g 23 (by omega), g 25 (by omega), g 26 (by omega), g 27 (by omega), g 28 (by omega), g 34 (by omega), g 35 (by omega), g 36 (by omega), g 37 (by omega), g 38 (by omega)]
          exact hR
        have hl2 : mlS G2 S r s L := by
          unfold mlS at hl ⊢
          rw [g 15 (by omega), g 16 (by omega), g 17 (by omega), g 18 (by omega), g 19 (by omega)]
          exact hl
        exact cM_farOf (zP_same _ _ _) hR2 (hm.fr (zFr.put (A := fun z => z = 139) rfl) (by decide)) hl2 hr hs hb K2
      have no : ffL S r s L (b + 1) = ffL S r s L b → zW (d + 3) m_Mo_findsFarthest e 15 [.ref 139, .int (nI r), .int (nI s), .int (nI b + 1)] [] (zP h 139 (zO 10 G1)) Q := fun c => by
        rw [nI_1]
        exact ih (b + 1) G1 (by omega) (by rw [c]; exact g1) (by rw [c]; exact g2) go
      refine b_Mo_findsFarthest_15 (ifF (show ¬ nI 16 ≤ nI b from nI_ge (by omega) (by decide)) ⟨_, zP_same _ _ _, _, r22, 16, p, (zP_ne _ _ (by decide)).trans hp1, zIn_nI hb (by decide), ?_⟩)
      rw [nI_clamp (by omega)]
      refine ifB (fun c => no (if_neg (fun w => by rw [hL] at w; simp [c] at w))) (fun c => ⟨_, zP_same _ _ _, _, r23, 16, o, (zP_ne _ _ (by decide)).trans ho1, zIn_nI hb (by decide), ?_⟩)
      refine ifB (fun c2 => ⟨⟨_, zP_same _ _ _⟩, far G1 go ⟨_, rfl, _, zP_same _ _ _, _, g2, ?_⟩⟩) (fun c2 => no (if_neg (fun w => by rw [hL] at w; simp [c2] at w)))
      have cL : L b = true := by rw [hL]; simp [c, c2]
      refine ifB (fun c3 => no (if_neg (fun w => ?_))) (fun c3 => ⟨_, zP_same _ _ _, ?_⟩)
      · have := Int64.le_iff_toInt_le.mp (lc_le.mp c3)
        have := Int64.lt_iff_toInt_lt.mp w.2
        omega
      · rintro h15 rfl
        rw [zP_zP]
        have go2 : ∀ k, k < 20 ∨ 21 < k → zU G1 20 (.int (nI b)) k = G k := fun j hj => by rw [zU_ne _ _ (by omega)]; exact go j hj
        refine ⟨⟨_, zP_same _ _ _⟩, far _ go2 ⟨_, rfl, _, zP_same _ _ _, ?_⟩⟩
        rintro h20 rfl
        rw [zP_zP, nI_1]
        have ef : ffL S r s L (b + 1) = (nI b, lfar S r s L b) := if_pos ⟨cL, by
          have := mt lc_le.mpr c3
          rw [Int64.le_iff_toInt_le] at this
          rw [Int64.lt_iff_toInt_lt]
          omega⟩
        exact ih (b + 1) _ (by omega) (by rw [ef]; rfl) (by rw [ef]; rfl) (fun j hj => by rw [zU_ne _ _ (by omega)]; exact go2 j hj)
  exact loop 16 0 _ rfl rfl rfl (fun j hj => by rw [zU_ne _ _ (by omega), zU_ne _ _ (by omega)])
end C
end
section
/-! The Model: THE LINE -/
def oI (o : Nat → Int32) (B L : Nat → Bool) (c : Nat) (sk : Nat → Int32) : Prop := (∀ b, b < 16 → L b = (B b && decide (o b = 0))) ∧ (∀ j, j < c → ∃ b, b < 16 ∧ sk j = nI b ∧ o b = nI (j + 1)) ∧ ∀ b, b < 16 → o b = 0 ∨ ∃ j, j < c ∧ sk j = nI b ∧ o b = nI (j + 1)
def bfP (p : Nat → Int32) (B : Nat → Bool) : Prop := ∀ b, b < 16 → p b = b01 (B b)
def lnM (h : zH) (G : Nat → Value) (S : Nat → Int32) (l q : Int32) (r s : Nat) : Prop := G 14 = .int (fR S l q r s).1 ∧ mlS G S r s (fR S l q r s).2.1 ∧ ((fR S l q r s).1 ≠ 0 → G 20 = .int (ffL S r s (fR S l q r s).2.1 16).1 ∧ G 21 = .long (ffL S r s (fR S l q r s).2.1 16).2) ∧ G 24 = .int (nI (fR S l q r s).2.2.1) ∧ (∃ p, h.2 145 = zI 1 16 p ∧ bfP p (bothL S r s)) ∧ ∃ o, h.2 146 = zI 0 16 o ∧ oI o (bothL S r s) (fR S l q r s).2.1 (fR S l q r s).2.2.1 (fR S l q r s).2.2.2
theorem zi0 : zIn 0 115 := zIn_nI (show 0 < 115 by decide) (by decide)
theorem zi1 : zIn 1 115 := zIn_nI (show 1 < 115 by decide) (by decide)
theorem zi2 : zIn 2 115 := zIn_nI (show 2 < 115 by decide) (by decide)
theorem mR_of {G G' : Nat → Value} (hR : mR G) (g : ∀ k, k < 5 ∨ k = 22 ∨ k = 23 ∨ (24 < k ∧ k < 29) ∨ 33 < k → G' k = G k) : mR G' := by
  unfold mR at hR ⊢
  rw [g 0 (by omega), g 1 (by omega), g 2 (by omega), g 3 (by omega), g 4 (by omega), g 22 (by omega), g 23 (by omega), g 25 (by omega), g 26 (by omega), g 27 (by omega), g 28 (by omega), g 34 (by omega), g 35 (by omega), g 36 (by omega), g 37 (by omega), g 38 (by omega)]
  exact hR
theorem oI_mp {h : zH} {p o : Nat → Int32} {B L : Nat → Bool} {c : Nat} {sk : Nat → Int32} (hp : h.2 145 = zI 1 16 p) (hpB : bfP p B) (ho : h.2 146 = zI 0 16 o) (hI : oI o B L c sk) : mpA h L := by
  refine ⟨p, o, hp, ho, fun b hb => ⟨?_, ?_⟩⟩
  · rw [hpB b hb]; exact b01_01 _
  · rw [hI.1 b hb, hpB b hb]
    cases B b <;> simp [b01]
theorem oI_strike {o : Nat → Int32} {B L : Nat → Bool} {c f : Nat} {sk : Nat → Int32} (hI : oI o B L c sk) (hc : c < 2 ^ 30) (hf : f < 16) (hL : L f = true) : oI (zU o f (nI (c + 1))) B (rmL L f) (c + 1) (zU sk c (nI f)) := by
  obtain ⟨h1, h2, h3⟩ := hI
  have of0 : o f = 0 := by
    have := h1 f hf
    rw [hL] at this
    have := this.symm
    simp only [Bool.and_eq_true, decide_eq_true_eq] at this
    exact this.2
  refine ⟨fun b hb => ?_, fun j hj => ?_, fun b hb => ?_⟩
  · by_cases e : b = f
    · subst e
      rw [zU_same]
      unfold rmL
      simp [nI_ne0 (n := c + 1) (by omega) (by omega)]
    · rw [zU_ne _ _ e, ← h1 b hb]
      unfold rmL
      simp [e]
  · by_cases e : j = c
    · subst e
      exact ⟨f, hf, zU_same _ _ _, zU_same _ _ _⟩
    · obtain ⟨b, b1, b2, b3⟩ := h2 j (by omega)
      refine ⟨b, b1, by rw [zU_ne _ _ e]; exact b2, ?_⟩
      have : b ≠ f := fun q => by rw [q, of0] at b3; exact nI_ne0 (n := j + 1) (by omega) (by omega) b3.symm
      rw [zU_ne _ _ this]; exact b3
  · by_cases e : b = f
    · subst e
      exact Or.inr ⟨c, by omega, zU_same _ _ _, zU_same _ _ _⟩
    · rw [zU_ne _ _ e]
      rcases h3 b hb with q | ⟨j, j1, j2, j3⟩
      · exact Or.inl q
      · exact Or.inr ⟨j, by omega, by rw [zU_ne _ _ (by omega)]; exact j2, j3⟩
theorem lN_cmp {n : Nat} (hn : n < 2 ^ 31) (q : Int32) : (lg_cmp (lN n) q.toInt64 < 0 ↔ nI n < q) ∧ (lg_cmp (lN n) q.toInt64 = 0 ↔ nI n = q) := by
  rw [lc_lt, lc_eq, Int64.lt_iff_toInt_lt, Int32.lt_iff_toInt_lt, ← Int64.toInt_inj, ← Int32.toInt_inj, lN_toInt hn, nI_toInt hn, Int32.toInt_toInt64]
  exact ⟨Iff.rfl, Iff.rfl⟩
section C
variable {d : Nat} {e : Nat × Nat} {h : zH} {Q : zQ} {n l q : Int32} {S : Nat → Int32} {G : Nat → Value} {r s : Nat}
theorem cM_fits73 (hm : msA h n l q S) (hS : StK S) (hq : 2 ≤ q) (hr : r < 7) (hs : s < 7) (hR : mR G) {p : Nat → Int32} (hpB : bfP p (bothL S r s))
    (K : ∀ h' G' kd L c sk, fR S l q r s = (kd, L, c, sk) → zFr (fun z => z = 139 ∨ z = 145 ∨ z = 146) h h' → h'.2 139 = zO 10 G' → (∀ k, k < 14 ∨ 24 < k ∨ k = 22 ∨ k = 23 → G' k = G k) → G' 14 = .int kd → mlS G' S r s L → (kd ≠ 0 → G' 20 = .int (ffL S r s L 16).1 ∧ G' 21 = .long (ffL S r s L 16).2) → G' 24 = .int (nI c) → h'.2 145 = zI 1 16 p → (∃ o, h'.2 146 = zI 0 16 o ∧ oI o (bothL S r s) L c sk) → Q none h') :
    ∀ k L c sk (h1 : zH) (G1 : Nat → Value) (o : Nat → Int32), fR S l q r s = fitL S r s l q k L c sk → PtL S r s L → cnL L 16 + 1 ≤ k → cnL L 16 + c ≤ 16 → zFr (fun z => z = 139 ∨ z = 145 ∨ z = 146) h h1 → h1.2 139 = zO 10 G1 → (∀ k, k < 14 ∨ 24 < k ∨ k = 22 ∨ k = 23 → G1 k = G k) → G1 14 = .int (-4) → G1 24 = .int (nI c) → h1.2 145 = zI 1 16 p → h1.2 146 = zI 0 16 o → oI o (bothL S r s) L c sk →
      zW (d + 4) m_Mo_fits e 73 [.ref 139, .int (nI r), .int (nI s), zD] [] h1 Q := by
  intro k
  induction k with
  | zero => intro L c sk h1 G1 o _ _ hk; omega
  | succ k ih =>
    intro L c sk h1 G1 o hfit hL hk hc hf1 hG1 go g14 g24 hp ho hI
    have hm1 := hm.fr hf1 (by decide)
    have hR1 : mR G1 := mR_of hR (fun k hk => go k (by omega))
    have hmp := oI_mp hp hpB ho hI
    have hcn := cnL_le L 16
    -- the end
    have fin : ∀ (G2 : Nat → Value) kd, kd ≠ -4 → lkd S r s L l q = kd → kd ≠ -1 → mlS G2 S r s L → (∀ k, k < 14 ∨ 24 < k ∨ k = 22 ∨ k = 23 → G2 k = G k) → (kd ≠ 0 → G2 20 = .int (ffL S r s L 16).1 ∧ G2 21 = .long (ffL S r s L 16).2) → G2 24 = .int (nI c) → zW (d + 4) m_Mo_fits e 73 [.ref 139, .int (nI r), .int (nI s), zD] [] (zP h1 139 (zO 10 (zU G2 14 (.int kd)))) Q := by
      intro G2 kd k4 hkd k1 hml g2 hff g24'
      have hf2 : zFr (fun z => z = 139 ∨ z = 145 ∨ z = 146) h1 (zP h1 139 (zO 10 (zU G2 14 (.int kd)))) := zFr.put (Or.inl rfl)
      refine b_Mo_fits_73 ⟨_, zP_same _ _ _, _, rfl, ifF k4 ?_⟩
      refine K _ _ kd L c sk ?_ (hf1.trans hf2) (zP_same _ _ _) (fun k hk => ?_) rfl hml hff g24' ((zP_ne _ _ (by decide)).trans hp) ⟨o, (zP_ne _ _ (by decide)).trans ho, hI⟩
      · rw [hfit]
        show (if lkd S r s L l q = -1 then _ else _) = _
        rw [hkd, if_neg k1]
      · rw [zU_ne _ _ (by omega)]
        exact g2 k hk
    refine b_Mo_fits_73 ⟨G1, hG1, _, g14, ifT rfl ⟨⟨G1, hG1⟩, cM_sums hG1 hR1 hm1 hmp hr hs (fun G2 hl2 go2 => ?_)⟩⟩
    have goG2 : ∀ k, k < 14 ∨ 24 < k ∨ k = 22 ∨ k = 23 → G2 k = G k := fun k hk => (go2 k (by omega)).trans (go k hk)
    have hR2 : mR G2 := mR_of hR (fun k hk => goG2 k (by omega))
    have f24 : G2 24 = .int (nI c) := (go2 24 (by omega)).trans g24
    obtain ⟨st, hst, st0, st1, st2, st3⟩ := id hm1
    have hst2 : (zP h1 139 (zO 10 G2)).2 140 = zI 0 115 st := (zP_ne _ _ (by decide)).trans hst
    refine ⟨rfl, G2, zP_same _ _ _, _, hl2.1, G2, zP_same _ _ _, _, hR2.1, 115, st, hst2, zi2, ?_⟩
    rw [show (2 : Int32).toNatClampNeg = 2 from rfl, st2]
    refine ifB (fun c1 => ⟨G2, zP_same _ _ _, ?_⟩) (fun c1 => ⟨G2, zP_same _ _ _, _, hl2.2.2.2.1, ?_⟩)
    · rintro h12 rfl
      rw [zP_zP]
      exact fin G2 0 (by decide) (if_pos (Or.inl ((lN_cmp (by omega) q).1.mp c1))) (by decide) hl2 goG2 (fun w => absurd rfl w) f24
    · refine ifB (fun c2 => ⟨G2, zP_same _ _ _, ?_⟩) (fun c2 => ⟨⟨G2, zP_same _ _ _⟩, ?_⟩)
      · rintro h16 rfl
        rw [zP_zP]
        exact fin G2 0 (by decide) (if_pos (Or.inr (lc_eq.mp c2))) (by decide) hl2 goG2 (fun w => absurd rfl w) f24
      · have nc : ¬ (nI (cnL L 16) < q ∨ lxx S r L = 0) := fun w => w.elim (fun w => c1 ((lN_cmp (by omega) q).1.mpr w)) (fun w => c2 (lc_eq.mpr w))
        have h139 : zFr (fun z => z = 139) h1 (zP h1 139 (zO 10 G2)) := zFr.put rfl
        refine cM_findsFarthest (zP_same _ _ _) hR2 (hm1.fr h139 (by decide)) (hmp.fr h139 (by decide) (by decide)) hl2 hr hs (fun G3 g20 g21 go3 => ⟨rfl, ?_⟩)
        rw [zP_zP]
        have goG3 : ∀ k, k < 14 ∨ 24 < k ∨ k = 22 ∨ k = 23 → G3 k = G k := fun k hk => (go3 k (by omega)).trans (goG2 k hk)
        have hR3 : mR G3 := mR_of hR (fun k hk => goG3 k (by omega))
        have hl3 : mlS G3 S r s L := by
          unfold mlS at hl2 ⊢
          rw [go3 15 (by omega), go3 16 (by omega), go3 17 (by omega), go3 18 (by omega), go3 19 (by omega)]
          exact hl2
        have t24 : G3 24 = .int (nI c) := (go3 24 (by omega)).trans f24
        have hst3 : (zP h1 139 (zO 10 G3)).2 140 = zI 0 115 st := (zP_ne _ _ (by decide)).trans hst
        refine b_Mo_fits_126 ⟨G3, zP_same _ _ _, _, g21, G3, zP_same _ _ _, _, hR3.1, 115, st, hst3, zi1, ⟨G3, zP_same _ _ _⟩, cM_den (zP_same _ _ _) hl3 ⟨_, rfl, ?_⟩⟩
        rw [show (1 : Int32).toNatClampNeg = 1 from rfl, st1]
        refine ifB (fun c3 => ⟨G3, zP_same _ _ _, _, hl3.1, G3, zP_same _ _ _, _, hR3.1, 115, st, hst3, zi2, ?_⟩) (fun c3 => ⟨G3, zP_same _ _ _, ?_⟩)
        · rw [show (2 : Int32).toNatClampNeg = 2 from rfl, st2]
          have nf : ¬ (ffL S r s L 16).2 ≤ l.toInt64 * lden S r L := fun w => by
            have a1 := Int64.lt_iff_toInt_lt.mp (lc_gt.mp c3)
            have a2 := Int64.le_iff_toInt_le.mp w
            omega
          refine ifB (fun c4 => ⟨G3, zP_same _ _ _, ?_⟩) (fun c4 => ⟨G3, zP_same _ _ _, _, t24, G3, zP_same _ _ _, ?_⟩)
          · rintro h17 rfl
            rw [zP_zP]
            exact fin G3 1 (by decide) (by unfold lkd; rw [if_neg nc, if_neg nf, if_pos ((lN_cmp (by omega) q).2.mp c4)]) (by decide) hl3 goG3 (fun _ => ⟨g20, g21⟩) t24
          · rintro h21 rfl
            rw [zP_zP]
            have hkd : lkd S r s L l q = -1 := by unfold lkd; rw [if_neg nc, if_neg nf, if_neg (fun w => c4 ((lN_cmp (by omega) q).2.mpr w))]
            have hn : 0 < cnL L 16 := by
              rcases Nat.eq_zero_or_pos (cnL L 16) with w | w
              · exfalso
                apply nc
                left
                rw [w]
                have := Int32.le_iff_toInt_le.mp hq
                exact Int32.lt_iff_toInt_lt.mpr (by have e1 : (2 : Int32).toInt = 2 := by decide
                                                    have e0 : (nI 0).toInt = 0 := by decide
                                                    omega)
              · exact w
            rcases ff_ok hS hr hs hL 16 (Nat.le_refl _) with w | ⟨f, f1, f2, f3⟩
            · omega
            · rw [f3] at g20
              refine ⟨_, zP_same _ _ _, _, hR3.2.2.2.2.2.2.1, _, zP_same _ _ _, _, g20, _, zP_same _ _ _, _, rfl, 16, o, (zP_ne _ _ (by decide)).trans ho, zIn_nI f1 (by decide), ?_⟩
              rintro h30 rfl
              rw [nI_1, nI_clamp (by omega)]
              have hrm := cnL_rm (L := L) (f := f) 16
              rw [f2] at hrm
              have hrm2 : cnL (rmL L f) 16 + 1 = cnL L 16 := by
                rcases hrm with w | w
                · omega
                · have := w.2; simpa using this
              have hfr : zFr (fun z => z = 139 ∨ z = 145 ∨ z = 146) h1 (zP (zP h1 139 (zO 10 (zU G3 24 (.int (nI (c + 1)))))) 146 (zI 0 16 (zU o f (nI (c + 1))))) := (zFr.put (Or.inl rfl)).trans (zFr.put (Or.inr (Or.inr rfl)))
              refine ih (rmL L f) (c + 1) (zU sk c (nI f)) _ (zU G3 24 (.int (nI (c + 1)))) (zU o f (nI (c + 1))) ?_ (PtL_rm hL) (by omega) (by omega) (hf1.trans hfr) ((zP_ne _ _ (by decide)).trans (zP_same _ _ _)) (fun k hk => ?_) ?_ rfl ?_ (zP_same _ _ _) (oI_strike hI (by omega) f1 f2)
              · rw [hfit]
                show (if lkd S r s L l q = -1 then _ else _) = _
                rw [if_pos hkd, f3]
                show fitL S r s l q k (rmL L (nI f).toNatClampNeg) (c + 1) (zU sk c (nI f)) = _
                rw [nI_clamp (by omega)]
              · rw [zU_ne _ _ (by omega)]; exact goG3 k hk
              · show G3 14 = _
                rw [go3 14 (by omega), go2 14 (by omega)]; exact g14
              · exact (zP_ne _ _ (by decide)).trans ((zP_ne _ _ (by decide)).trans hp)
        · rintro h32 rfl
          rw [zP_zP]
          have yf : (ffL S r s L 16).2 ≤ l.toInt64 * lden S r L := by
            have a1 := mt lc_gt.mpr c3
            rw [Int64.lt_iff_toInt_lt] at a1
            exact Int64.le_iff_toInt_le.mpr (by omega)
          exact fin G3 2 (by decide) (by unfold lkd; rw [if_neg nc, if_pos yf]) (by decide) hl3 goG3 (fun _ => ⟨g20, g21⟩) t24
theorem cM_fits (hG : h.2 139 = zO 10 G) (hR : mR G) (hm : msA h n l q S) (hp : ∃ p, h.2 145 = zI 1 16 p) (ho : ∃ o, h.2 146 = zI 0 16 o) (hS : StK S) (hq : 2 ≤ q) (hr : r < 7) (hs : s < 7)
    (K : ∀ h' G', zFr (fun z => z = 139 ∨ z = 145 ∨ z = 146) h h' → h'.2 139 = zO 10 G' → (∀ k, k < 14 ∨ 24 < k ∨ k = 22 ∨ k = 23 → G' k = G k) → lnM h' G' S l q r s → Q none h') : zW (d + 4) m_Mo_fits e 0 [.ref 139, .int (nI r), .int (nI s), zD] [] h Q := by
  refine b_Mo_fits_0 ⟨G, hG, ?_⟩
  rintro h2 rfl
  obtain ⟨p0, hp0⟩ := hp
  obtain ⟨o0, ho0⟩ := ho
  have loop : ∀ k b (h1 : zH) (p o : Nat → Int32), b + k = 16 → zFr (fun z => z = 139 ∨ z = 145 ∨ z = 146) h h1 → h1.2 139 = zO 10 (zU G 24 (.int 0)) → h1.2 145 = zI 1 16 p → h1.2 146 = zI 0 16 o → (∀ j, j < b → p j = b01 (bothL S r s j)) → (∀ j, j < b → o j = 0) →
      zW (d + 4) m_Mo_fits e 7 [.ref 139, .int (nI r), .int (nI s), .int (nI b)] [] h1 Q := by
    intro k
    induction k with
    | zero =>
      intro b h1 p o hk hf1 hG1 hp1 ho1 hp2 ho2
      have : b = 16 := by omega
      subst this
      refine b_Mo_fits_7 (ifT (show nI 16 ≤ nI 16 from Int32.le_refl _) ⟨_, hG1, ?_⟩)
      rintro h3 rfl
      have h139 : zFr (fun z => z = 139 ∨ z = 145 ∨ z = 146) h1 (zP h1 139 (zO 10 (zU (zU G 24 (.int 0)) 14 (.int (-4))))) := zFr.put (Or.inl rfl)
      have hcn := cnL_le (bothL S r s) 16
      refine cM_fits73 hm hS hq hr hs hR (p := p) (fun b hb => hp2 b hb) (fun h' G' kd L c sk e1 e2 e3 e4 e5 e6 e7 e8 e9 e10 => ?_) 17 (bothL S r s) 0 sk0 _ _ o rfl bothL_pt (by omega) (by omega) (hf1.trans h139) (zP_same _ _ _) (fun k hk => ?_) rfl rfl ((zP_ne _ _ (by decide)).trans hp1) ((zP_ne _ _ (by decide)).trans ho1) ⟨fun b hb => ?_, fun j hj => absurd hj (Nat.not_lt_zero j), fun b hb => Or.inl (ho2 b hb)⟩
      · refine K h' G' e2 e3 e4 ?_
        unfold lnM
        rw [e1]
        exact ⟨e5, e6, e7, e8, ⟨p, e9, fun b hb => hp2 b hb⟩, e10⟩
      · rw [zU_ne _ _ (by omega), zU_ne _ _ (by omega)]
      · rw [ho2 b hb]
        simp
    | succ k ih =>
      intro b h1 p o hk hf1 hG1 hp1 ho1 hp2 ho2
      have hb : b < 16 := by omega
      have hm1 := hm.fr hf1 (by decide)
      obtain ⟨st, hst, st0, st1, st2, st3⟩ := id hm1
      have both : bothL S r s b = (decide (S (16 * r + b) ≠ -4) && decide (S (16 * s + b) ≠ -4)) := by unfold bothL; simp [hb]
      have put : ∀ v, v = b01 (bothL S r s b) → zW (d + 4) m_Mo_fits e 7 [.ref 139, .int (nI r), .int (nI s), .int (nI (b + 1))] [] (zP (zP h1 145 (zI 1 16 (zU p b v))) 146 (zI 0 16 (zU o b 0))) Q := fun v hv => by
        have hf2 : zFr (fun z => z = 139 ∨ z = 145 ∨ z = 146) h1 (zP (zP h1 145 (zI 1 16 (zU p b v))) 146 (zI 0 16 (zU o b 0))) := (zFr.put (Or.inr (Or.inl rfl))).trans (zFr.put (Or.inr (Or.inr rfl)))
        refine ih (b + 1) _ (zU p b v) (zU o b 0) (by omega) (hf1.trans hf2) ((zP_ne _ _ (by decide)).trans ((zP_ne _ _ (by decide)).trans hG1)) ((zP_ne _ _ (by decide)).trans (zP_same _ _ _)) (zP_same _ _ _) (fun j hj => ?_) (fun j hj => ?_)
        · by_cases ej : j = b
          · rw [ej, zU_same]; exact hv
          · rw [zU_ne _ _ ej]; exact hp2 j (by omega)
        · by_cases ej : j = b
          · rw [ej, zU_same]
          · rw [zU_ne _ _ ej]; exact ho2 j (by omega)
      have tail : ∀ v, v = b01 (bothL S r s b) → (∃ n12 f13, h1.2 145 = zI 1 n12 f13 ∧ zIn (nI b) n12 ∧ ∀ h14, h14 = zP h1 145 (zI 1 n12 (zU f13 (nI b).toNatClampNeg v)) → (∃ F15, h14.2 139 = zO 10 F15 ∧ ∃ x16, F15 23 = Value.ref x16 ∧ ((∃ n17 f18, h14.2 x16 = zI 0 n17 f18 ∧ zIn (nI b) n17 ∧ ∀ h19, h19 = zP h14 x16 (zI 0 n17 (zU f18 (nI b).toNatClampNeg (0 : Int32))) → (zW (d + 4) m_Mo_fits e 7 [.ref 139, .int (nI r), .int (nI s), .int (nI b + 1)] [] h19 Q))))) := fun v hv => by
        refine ⟨16, p, hp1, zIn_nI hb (by decide), ?_⟩
        rintro h14 rfl
        refine ⟨_, (zP_ne _ _ (by decide)).trans hG1, _, hR.2.2.2.2.2.2.1, 16, o, (zP_ne _ _ (by decide)).trans ho1, zIn_nI hb (by decide), ?_⟩
        rintro h19 rfl
        rw [nI_1, nI_clamp (by omega)]
        exact put v hv
      refine b_Mo_fits_7 (ifF (show ¬ nI 16 ≤ nI b from nI_ge (by omega) (by decide)) ⟨_, hG1, _, hR.2.2.2.2.2.1, _, hG1, _, hR.1, cM_at ⟨_, rfl, 115, st, hst, zIn_nI (by omega) (by decide), ?_⟩⟩)
      rw [nI_clamp (by omega), st3 _ (by omega)]
      refine ifB (fun c => ⟨by decide, tail 0 (by rw [both]; simp [c, b01])⟩) (fun c => ⟨_, hG1, _, hR.1, cM_at ⟨_, rfl, 115, st, hst, zIn_nI (by omega) (by decide), ?_⟩⟩)
      rw [nI_clamp (by omega), st3 _ (by omega)]
      exact ifB (fun c2 => ⟨by decide, tail 0 (by rw [both]; simp [c2, b01])⟩) (fun c2 => ⟨by decide, tail 1 (by rw [both]; simp [c, c2, b01])⟩)
  exact loop 16 0 _ p0 o0 rfl (zFr.put (Or.inl rfl)) (zP_same _ _ _) ((zP_ne _ _ (by decide)).trans hp0) ((zP_ne _ _ (by decide)).trans ho0) (fun j hj => absurd hj (Nat.not_lt_zero j)) (fun j hj => absurd hj (Nat.not_lt_zero j))
theorem cM_costOfLine (hG : h.2 139 = zO 10 G) (hl : lnM h G S l q r s) (hS : StK S) (hq : 2 ≤ q) (hli : 0 ≤ l) (hli2 : l ≤ 99) (hr : r < 7) (hs : s < 7) (hrs : r ≠ s) (K : Q (some (.int (if kdB S l q 2 r s = true then nI (csN S l q r s) else -4))) h) : zW (d + 2) m_Mo_costOfLine e 0 [.ref 139] [] h Q := by
  obtain ⟨l1, l2, l3, -⟩ := hl
  refine b_Mo_costOfLine_0 ⟨G, hG, _, l1, ifB (fun c => ?_) (fun c => ?_)⟩
  · have hk : kdB S l q 2 r s = true := by unfold kdB; simp [hrs, c]
    obtain ⟨e1, e2, -⟩ := cs_eq hS hq hli hli2 hr hs hk
    rw [if_pos hk, ← e1] at K
    exact ⟨G, hG, _, (l3 (by rw [c]; decide)).2, ⟨G, hG⟩, cM_den hG l2 ⟨_, rfl, b_Mo_upBy_0 ⟨e2, _, rfl, K⟩⟩⟩
  · have hk : ¬ kdB S l q 2 r s = true := by unfold kdB; simp [c]
    rw [if_neg hk] at K
    exact K
end C
end
section
/-! The Model: the costs of all lines -/
def mGf (G G' : Nat → Value) : Prop := ∀ k, k < 14 ∨ 24 < k ∨ k = 22 ∨ k = 23 → G' k = G k
theorem mGf.R {G G' : Nat → Value} (g : mGf G G') (hR : mR G) : mR G' := mR_of hR (fun k hk => g k (by omega))
section C
variable {d : Nat} {e : Nat × Nat} {h : zH} {Q : zQ} {l q : Int32} {S : Nat → Int32} {G : Nat → Value} {r s N : Nat}
theorem ix7b (r s : Nat) : 7 * nI r + nI s = nI (7 * r + s) := by
  rw [show (7 : Int32) = nI 7 from rfl, pk_mul, nI_add]
def mcI (h : zH) (G : Nat → Value) (N : Nat) (l q : Int32) (S : Nat → Int32) (h1 : zH) (r s : Nat) : Prop := (∃ G1, h1.2 139 = zO 10 G1 ∧ mGf G G1) ∧ (∃ p, h1.2 145 = zI 1 16 p) ∧ (∃ o, h1.2 146 = zI 0 16 o) ∧ (∃ f, h1.2 147 = zI 0 49 f ∧ ∀ r' s', r' < N → s' < N → (r' < r ∨ (r' = r ∧ s' < s)) → f (7 * r' + s') = nI (csN S l q r' s')) ∧ zFr (fun z => z = 139 ∨ z = 145 ∨ z = 146 ∨ z = 147) h h1
theorem cM_findsCosts (hG : h.2 139 = zO 10 G) (hR : mR G) (hm : msA h (nI N) l q S) (hp : ∃ p, h.2 145 = zI 1 16 p) (ho : ∃ o, h.2 146 = zI 0 16 o) (hc : ∃ f, h.2 147 = zI 0 49 f) (hS : StK S) (hq : 2 ≤ q) (hli : 0 ≤ l) (hli2 : l ≤ 99) (hN : N ≤ 7)
    (K : ∀ h', mcI h G N l q S h' N 0 → Q none h') : zW (d + 5) m_Mo_findsCosts e 0 [.ref 139, zD, zD] [] h Q := by
  refine b_Mo_findsCosts_0 ?_
  have put : ∀ h1 r s f v, mcI h G N l q S h1 r s → r < N → s < N → h1.2 147 = zI 0 49 f → v = nI (csN S l q r s) → mcI h G N l q S (zP h1 147 (zI 0 49 (zU f (7 * r + s) v))) r (s + 1) := by
    intro h1 r s f1 v hI hr hs hf1 hv
    obtain ⟨⟨G1, hG1, g1⟩, ⟨p, hp⟩, ⟨o, ho⟩, ⟨f', hf', hf2⟩, hfr⟩ := hI
    have : f' = f1 := by rw [hf1] at hf'; exact (zI_inj hf').symm
    subst this
    have h147 : zFr (fun z => z = 139 ∨ z = 145 ∨ z = 146 ∨ z = 147) h1 (zP h1 147 (zI 0 49 (zU f' (7 * r + s) v))) := zFr.put (Or.inr (Or.inr (Or.inr rfl)))
    refine ⟨⟨G1, (zP_ne _ _ (by decide)).trans hG1, g1⟩, ⟨p, (zP_ne _ _ (by decide)).trans hp⟩, ⟨o, (zP_ne _ _ (by decide)).trans ho⟩, ⟨_, zP_same _ _ _, fun r' s' hr' hs' hor => ?_⟩, hfr.trans h147⟩
    by_cases ez : 7 * r' + s' = 7 * r + s
    · have : r' = r ∧ s' = s := by omega
      rw [ez, zU_same, this.1, this.2]; exact hv
    · rw [zU_ne _ _ ez]
      exact hf2 r' s' hr' hs' (by omega)
  have inner : ∀ r, r < N → (∀ h2, mcI h G N l q S h2 (r + 1) 0 → zW (d + 5) m_Mo_findsCosts e 2 [.ref 139, .int (nI (r + 1)), zD] [] h2 Q) → ∀ j s h1, s + j = N → mcI h G N l q S h1 r s → zW (d + 5) m_Mo_findsCosts e 14 [.ref 139, .int (nI r), .int (nI s)] [] h1 Q := by
    intro r hr Kn j
    induction j with
    | zero =>
      intro s h1 hj hI
      have : s = N := by omega
      subst this
      obtain ⟨⟨G1, hG1, g1⟩, a2, a3, ⟨f', hf', hf2⟩, hfr⟩ := hI
      obtain ⟨st, hst, st0, -⟩ := hm.fr hfr (by decide)
      refine b_Mo_findsCosts_14 ⟨G1, hG1, _, (g1.R hR).1, 115, st, hst, zi0, ?_⟩
      rw [show (0 : Int32).toNatClampNeg = 0 from rfl, st0]
      refine ifT (Int32.le_refl _) ?_
      rw [nI_1]
      exact Kn h1 ⟨⟨G1, hG1, g1⟩, a2, a3, ⟨f', hf', fun r' s' hr' hs' hor => hf2 r' s' hr' hs' (by omega)⟩, hfr⟩
    | succ j ih =>
      intro s h1 hj hI
      have hs : s < N := by omega
      obtain ⟨⟨G1, hG1, g1⟩, a2, a3, ⟨f', hf', hf2⟩, hfr⟩ := id hI
      obtain ⟨st, hst, st0, -⟩ := hm.fr hfr (by decide)
      have hR1 := g1.R hR
      refine b_Mo_findsCosts_14 ⟨G1, hG1, _, hR1.1, 115, st, hst, zi0, ?_⟩
      rw [show (0 : Int32).toNatClampNeg = 0 from rfl, st0, ix7b]
      refine ifF (nI_ge hs (by omega)) ⟨G1, hG1, _, hR1.2.2.2.2.2.2.2.1, 49, f', hf', zIn_nI (by omega) (by decide), ?_⟩
      rintro h9 rfl
      rw [nI_1, nI_clamp (by omega)]
      refine ifB (fun c => ?_) (fun c => ?_)
      · have ers := (nI_eq (by omega) (by omega)).mp c
        exact ih (s + 1) _ (by omega) (put h1 r s f' 0 hI hr hs hf' (by unfold csN kdB; simp [ers]; rfl))
      · have hrs : r ≠ s := fun q => c (by rw [q])
        have h147 : zFr (fun z => z = 147) h1 (zP h1 147 (zI 0 49 (zU f' (7 * r + s) 0))) := zFr.put rfl
        have hm2 : msA (zP h1 147 (zI 0 49 (zU f' (7 * r + s) 0))) (nI N) l q S := (hm.fr hfr (by decide)).fr h147 (by decide)
        refine ⟨⟨G1, (zP_ne _ _ (by decide)).trans hG1⟩, cM_fits ((zP_ne _ _ (by decide)).trans hG1) hR1 hm2 (a2.imp fun _ w => (zP_ne _ _ (by decide)).trans w) (a3.imp fun _ w => (zP_ne _ _ (by decide)).trans w) hS hq (by omega) (by omega) (fun h3 G3 hf3 hG3 g3 hl3 => ?_)⟩
        have gg : mGf G G3 := fun k hk => (g3 k hk).trans (g1 k hk)
        have hR3 := gg.R hR
        have f3 : h3.2 147 = zI 0 49 (zU f' (7 * r + s) 0) := by rw [hf3 _ (by decide)]; exact zP_same _ _ _
        have hI3 : mcI h G N l q S h3 r s := by
          obtain ⟨-, -, -, -, ⟨p3, hp3, -⟩, o3, ho3, -⟩ := id hl3
          refine ⟨⟨G3, hG3, gg⟩, ⟨p3, hp3⟩, ⟨o3, ho3⟩, ⟨_, f3, fun r' s' hr' hs' hor => ?_⟩, ?_⟩
          · rw [zU_ne _ _ (by omega)]; exact hf2 r' s' hr' hs' hor
          · exact (hfr.trans (h147.sub (fun z hz => Or.inr (Or.inr (Or.inr hz))))).trans (hf3.sub (fun z hz => by omega))
        refine ⟨rfl, G3, hG3, _, hR3.2.2.2.2.2.2.2.1, G3, hG3, _, hl3.1, ifB (fun c2 => ⟨⟨G3, hG3⟩, cM_costOfLine hG3 hl3 hS hq hli hli2 (by omega) (by omega) hrs ⟨_, rfl, 49, _, f3, ?_⟩⟩) (fun c2 => ⟨49, _, f3, ?_⟩)⟩
        · have hk : kdB S l q 2 r s = true := by unfold kdB; simp [hrs, c2]
          refine ⟨zIn_nI (by omega) (by decide), ?_⟩
          rintro h21 rfl
          rw [if_pos hk]
          exact ih (s + 1) _ (by omega) (put h3 r s _ _ hI3 hr hs f3 rfl)
        · refine ⟨zIn_nI (by omega) (by decide), ?_⟩
          rintro h25 rfl
          exact ih (s + 1) _ (by omega) (put h3 r s _ _ hI3 hr hs f3 (by unfold csN kdB; simp [c2]; rfl))
  have outer : ∀ j r h1, r + j = N → mcI h G N l q S h1 r 0 → zW (d + 5) m_Mo_findsCosts e 2 [.ref 139, .int (nI r), zD] [] h1 Q := by
    intro j
    induction j with
    | zero =>
      intro r h1 hj hI
      have : r = N := by omega
      subst this
      obtain ⟨⟨G1, hG1, g1⟩, a2, a3, -, hfr⟩ := id hI
      obtain ⟨st, hst, st0, -⟩ := hm.fr hfr (by decide)
      refine b_Mo_findsCosts_2 ⟨G1, hG1, _, (g1.R hR).1, 115, st, hst, zi0, ?_⟩
      rw [show (0 : Int32).toNatClampNeg = 0 from rfl, st0]
      exact ifT (Int32.le_refl _) (K h1 hI)
    | succ j ih =>
      intro r h1 hj hI
      obtain ⟨⟨G1, hG1, g1⟩, a2, a3, -, hfr⟩ := id hI
      obtain ⟨st, hst, st0, -⟩ := hm.fr hfr (by decide)
      refine b_Mo_findsCosts_2 ⟨G1, hG1, _, (g1.R hR).1, 115, st, hst, zi0, ?_⟩
      rw [show (0 : Int32).toNatClampNeg = 0 from rfl, st0]
      exact ifF (nI_ge (by omega) (by omega)) (inner r (by omega) (fun h2 hI2 => ih (r + 1) h2 (by omega) hI2) N 0 h1 (by omega) hI)
  obtain ⟨f, hf⟩ := hc
  exact outer N 0 h (by omega) ⟨⟨G, hG, fun _ _ => rfl⟩, hp, ho, ⟨f, hf, fun r' s' _ _ hor => by omega⟩, zFr.rf⟩
end C
end
section
/-! The Model: the least costs, step by step with the weights -/
def leE (x : Nat) : Int32 := if x = bI then 1000000000 else nI (x / 8)
def hoE (x : Nat) : Int32 := if x = bI then 0 else nI (x % 8)
def cwR (c w : Nat → Nat → Nat) (N : Nat) : Prop := ∀ r s, r < N → s < N → c r s ≤ 25345 ∧ w r s = if c r s = 0 then 0 else 8 * c r s + 1
/-- costs, least, hops -/
def mwA (h : zH) (c : Nat → Nat → Nat) (N : Nat) (D : Nat → Nat) : Prop := (∃ f, h.2 147 = zI 0 49 f ∧ ∀ r s, r < N → s < N → f (7 * r + s) = nI (c r s)) ∧ (∃ f, h.2 148 = zI 0 7 f ∧ ∀ r, r < 7 → f r = leE (D r)) ∧ ∃ f, h.2 149 = zI 0 7 f ∧ ∀ r, r < 7 → f r = hoE (D r)
theorem le_big : (1000000000 : Int32) = nI 1000000000 := rfl
section C
variable {d : Nat} {e : Nat × Nat} {h : zH} {Q : zQ} {G : Nat → Value} {c w : Nat → Nat → Nat} {N a : Nat} {D : Nat → Nat} {r s : Nat}
theorem cM_isLess (hG : h.2 139 = zO 10 G) (hR : mR G) (hc : mwA h c N D) (hcw : cwR c w N) (hp : hpI w N a D) (hN : N ≤ 7) (hr : r < N) (hs : s < N) (K : Q (some (.int (b01 (imp w D r s)))) h) : zW (d + 1) m_Mo_isLess e 0 [.ref 139, .int (nI r), .int (nI s), zD, zD] [] h Q := by
  obtain ⟨⟨f, hf, hf2⟩, ⟨g, hg, hg2⟩, k, hk, hk2⟩ := hc
  obtain ⟨hcb, hw⟩ := hcw r s hr hs
  have r25 : G 25 = .ref 147 := hR.2.2.2.2.2.2.2.1
  have r26 : G 26 = .ref 148 := hR.2.2.2.2.2.2.2.2.1
  have r27 : G 27 = .ref 149 := hR.2.2.2.2.2.2.2.2.2.1
  have hrb := hp.2.1 r
  have hsb := hp.2.1 s
  have yes : imp w D r s = true → ((1 : Int32) = 0 ∨ (1 : Int32) = 1) ∧ Q (some (.int 1)) h := fun q => by rw [q] at K; exact ⟨by decide, K⟩
  have no : imp w D r s = false → ((0 : Int32) = 0 ∨ (0 : Int32) = 1) ∧ Q (some (.int 0)) h := fun q => by rw [q] at K; exact ⟨by decide, K⟩
  have impF : ¬ (w r s ≠ 0 ∧ w r s + D s < D r) → imp w D r s = false := fun q => by
    unfold imp
    simp only [Bool.and_eq_false_iff, decide_eq_false_iff_not]
    omega
  have impT : w r s ≠ 0 → w r s + D s < D r → imp w D r s = true := fun q1 q2 => by
    unfold imp
    simp only [Bool.and_eq_true, decide_eq_true_eq]
    exact ⟨q1, q2⟩
  refine b_Mo_isLess_0 ⟨G, hG, _, r25, 49, f, hf, ?_⟩
  rw [ix7b]
  refine ⟨zIn_nI (by omega) (by decide), ?_⟩
  rw [nI_clamp (by omega), hf2 r s hr hs]
  by_cases c0 : c r s = 0
  · rw [c0]
    exact ifT rfl (no (impF (fun q => by rw [hw, if_pos c0] at q; exact q.1 rfl)))
  · rw [if_neg c0] at hw
    refine ifF (nI_ne0 (by omega) (by omega)) (b_Mo_isLess_16 ⟨G, hG, _, r26, 7, g, hg, zIn_nI (by omega) (by decide), ?_⟩)
    rw [nI_clamp (by omega), hg2 s (by omega)]
    by_cases c1 : D s = bI
    · exact ifT (by unfold leE; rw [if_pos c1]) (no (impF (fun q => by omega)))
    · have hsl : D s < bI := by omega
      have hb := hp_bd hN hp hs hsl
      have h6 := hp_6 hN hp hs hsl
      have es : leE (D s) = nI (D s / 8) := if_neg c1
      have eh : hoE (D s) = nI (D s % 8) := if_neg c1
      rw [es]
      refine ifF (fun q => ?_) ⟨G, hG, _, r26, 7, g, hg, zIn_nI (by omega) (by decide), G, hG, _, r26, 7, g, hg, zIn_nI (by omega) (by decide), ?_⟩
      · rw [le_big] at q
        have := (nI_eq (by omega) (by decide)).mp q
        omega
      rw [nI_clamp (by omega), hg2 s (by omega), hg2 r (by omega), es, nI_add]
      by_cases c2 : D r = bI
      · rw [show leE (D r) = nI 1000000000 by unfold leE; rw [if_pos c2]; rfl]
        exact ifT (nI_lt (by omega) (by decide)) (yes (impT (by omega) (by rw [c2]; unfold bI; omega)))
      · have hrl : D r < bI := by omega
        have hb2 := hp_bd hN hp hr hrl
        have h62 := hp_6 hN hp hr hrl
        have er : leE (D r) = nI (D r / 8) := if_neg c2
        have erh : hoE (D r) = nI (D r % 8) := if_neg c2
        rw [er]
        refine ifB (fun c3 => yes (impT (by omega) ?_)) (fun c3 => ⟨G, hG, _, r26, 7, g, hg, zIn_nI (by omega) (by decide), ?_⟩)
        · have := (nI_ltI (by omega) (by omega)).mp c3
          omega
        · have c3' := mt (nI_ltI (a := D s / 8 + c r s) (b := D r / 8) (by omega) (by omega)).mpr c3
          rw [hg2 r (by omega), er]
          refine ifB (fun c4 => ⟨G, hG, _, r27, 7, k, hk, zIn_nI (by omega) (by decide), G, hG, _, r27, 7, k, hk, zIn_nI (by omega) (by decide), ?_⟩) (fun c4 => no (impF (fun q => ?_)))
          · have c4' := (nI_eq (by omega) (by omega)).mp c4
            rw [hk2 s (by omega), hk2 r (by omega), eh, erh, nI_1]
            refine ifB (fun c5 => no (impF (fun q => ?_))) (fun c5 => yes (impT (by omega) ?_))
            · have := (nI_leI (by omega) (by omega)).mp c5
              omega
            · have := mt (nI_leI (a := D r % 8) (b := D s % 8 + 1) (by omega) (by omega)).mpr c5
              omega
          · have : D s / 8 + c r s ≠ D r / 8 := fun w => c4 (by rw [w])
            omega
theorem cM_findsLeast (hG : h.2 139 = zO 10 G) (hR : mR G) (hm : ∃ f, h.2 140 = zI 0 115 f ∧ f 0 = nI N) (hc : ∃ f, h.2 147 = zI 0 49 f ∧ ∀ r s, r < N → s < N → f (7 * r + s) = nI (c r s)) (h148 : ∃ f, h.2 148 = zI 0 7 f) (h149 : ∃ f, h.2 149 = zI 0 7 f) (hcw : cwR c w N) (hw : wOK w) (hN : N ≤ 7) (ha : a < N)
    (K : ∀ h', mwA h' c N (bfD w N a 6) → zFr (fun z => z = 148 ∨ z = 149) h h' → Q none h') : zW (d + 2) m_Mo_findsLeast e 0 [.ref 139, .int (nI a), zD, zD, zD] [] h Q := by
  have r0 : G 0 = .ref 140 := hR.1
  have r25 : G 25 = .ref 147 := hR.2.2.2.2.2.2.2.1
  have r26 : G 26 = .ref 148 := hR.2.2.2.2.2.2.2.2.1
  have r27 : G 27 = .ref 149 := hR.2.2.2.2.2.2.2.2.2.1
  obtain ⟨st, hst, st0⟩ := hm
  have A : zFr (fun z => z = 148 ∨ z = 149) h h := zFr.rf
  -- one relaxing
  have step : ∀ r s (h1 : zH) (E : Nat → Nat) (fl : Bool), r < N → s < N → hpI w N a E → mwA h1 c N E → zFr (fun z => z = 148 ∨ z = 149) h h1 →
      (∀ h2, mwA h2 c N (rlx w E r s) → zFr (fun z => z = 148 ∨ z = 149) h h2 → zW (d + 2) m_Mo_findsLeast e 61 [.ref 139, zD, .int (b01 (fl || imp w E r s)), .int (nI r), .int (nI (s + 1))] [] h2 Q) →
      zW (d + 2) m_Mo_findsLeast e 72 [.ref 139, zD, .int (b01 fl), .int (nI r), .int (nI s)] [] h1 Q := by
    intro r s h1 E fl hr hs hpE hc1 hf1 Kn
    have hG1 : h1.2 139 = zO 10 G := by rw [hf1 _ (by decide)]; exact hG
    refine b_Mo_findsLeast_72 ⟨⟨G, hG1⟩, cM_isLess hG1 hR hc1 hcw hpE hN hr hs ⟨_, rfl, ?_⟩⟩
    rw [nI_1]
    cases ci : imp w E r s with
    | false =>
      rw [ci, Bool.or_false] at Kn
      exact ifT rfl (Kn h1 (by rw [rlx_f ci]; exact hc1) hf1)
    | true =>
      rw [ci, Bool.or_true, rlx_t ci] at Kn
      obtain ⟨i1, i2⟩ := imp_t ci
      obtain ⟨hcb, hwe⟩ := hcw r s hr hs
      have hc0 : c r s ≠ 0 := fun q => by rw [hwe, if_pos q] at i1; exact i1 rfl
      rw [if_neg hc0] at hwe
      have hrb := hpE.2.1 r
      have hsl : E s < bI := by omega
      have hb := hp_bd hN hpE hs hsl
      have h6 := hp_6 hN hpE hs hsl
      obtain ⟨⟨f, hf, hf2⟩, ⟨g, hg, hg2⟩, k, hk, hk2⟩ := id hc1
      refine ifF (by decide) ⟨G, hG1, _, r26, G, hG1, _, r26, 7, g, hg, zIn_nI (by omega) (by decide), G, hG1, _, r25, 49, f, hf, ?_⟩
      rw [ix7b]
      refine ⟨zIn_nI (by omega) (by decide), 7, g, hg, zIn_nI (by omega) (by decide), ?_⟩
      rintro h16 rfl
      refine ⟨G, (zP_ne _ _ (by decide)).trans hG1, _, r27, G, (zP_ne _ _ (by decide)).trans hG1, _, r27, 7, k, (zP_ne _ _ (by decide)).trans hk, zIn_nI (by omega) (by decide), 7, k, (zP_ne _ _ (by decide)).trans hk, zIn_nI (by omega) (by decide), ?_⟩
      rintro h25 rfl
      rw [nI_clamp (by omega), nI_clamp (by omega), nI_clamp (by omega), hg2 s (by omega), hk2 s (by omega), hf2 r s hr hs, show leE (E s) = nI (E s / 8) from if_neg (by omega), show hoE (E s) = nI (E s % 8) from if_neg (by omega), nI_add, nI_1]
      have hfr : zFr (fun z => z = 148 ∨ z = 149) h1 (zP (zP h1 148 (zI 0 7 (zU g r (nI (E s / 8 + c r s))))) 149 (zI 0 7 (zU k r (nI (E s % 8 + 1))))) := (zFr.put (Or.inl rfl)).trans (zFr.put (Or.inr rfl))
      refine Kn _ ⟨⟨f, by rw [hfr _ (by decide)]; exact hf, hf2⟩, ⟨_, (zP_ne _ _ (by decide)).trans (zP_same _ _ _), fun x hx => ?_⟩, _, zP_same _ _ _, fun x hx => ?_⟩ (hf1.trans hfr)
      · by_cases ex : x = r
        · rw [ex, zU_same, zU_same]
          unfold leE
          rw [if_neg (by omega)]
          congr 1
          omega
        · rw [zU_ne _ _ ex, zU_ne _ _ ex]; exact hg2 x hx
      · by_cases ex : x = r
        · rw [ex, zU_same, zU_same]
          unfold hoE
          rw [if_neg (by omega)]
          congr 1
          omega
        · rw [zU_ne _ _ ex, zU_ne _ _ ex]; exact hk2 x hx
  have st1 : ∀ h1, zFr (fun z => z = 148 ∨ z = 149) h h1 → h1.2 139 = zO 10 G ∧ h1.2 140 = zI 0 115 st := fun h1 hf1 => ⟨by rw [hf1 _ (by decide)]; exact hG, by rw [hf1 _ (by decide)]; exact hst⟩
  have inner : ∀ (fl : Bool) r (E : Nat → Nat), r < N → hpI w N a E →
      (∀ h2, mwA h2 c N (rlR w r E N) → zFr (fun z => z = 148 ∨ z = 149) h h2 → zW (d + 2) m_Mo_findsLeast e 48 [.ref 139, zD, .int (b01 (fl || flR w r E N)), .int (nI (r + 1)), zD] [] h2 Q) →
      ∀ j s (h1 : zH), s + j = N → mwA h1 c N (rlR w r E s) → zFr (fun z => z = 148 ∨ z = 149) h h1 → zW (d + 2) m_Mo_findsLeast e 61 [.ref 139, zD, .int (b01 (fl || flR w r E s)), .int (nI r), .int (nI s)] [] h1 Q := by
    intro fl r E hr hpE Kn j
    induction j with
    | zero =>
      intro s h1 hj hc1 hf1
      have : s = N := by omega
      subst this
      obtain ⟨hG1, hs1⟩ := st1 h1 hf1
      refine b_Mo_findsLeast_61 ⟨G, hG1, _, r0, 115, st, hs1, zi0, ?_⟩
      rw [show (0 : Int32).toNatClampNeg = 0 from rfl, st0, nI_1]
      exact ifT (Int32.le_refl _) (Kn h1 hc1 hf1)
    | succ j ih =>
      intro s h1 hj hc1 hf1
      obtain ⟨hG1, hs1⟩ := st1 h1 hf1
      refine b_Mo_findsLeast_61 ⟨G, hG1, _, r0, 115, st, hs1, zi0, ?_⟩
      rw [show (0 : Int32).toNatClampNeg = 0 from rfl, st0]
      refine ifF (nI_ge (by omega) (by omega)) (step r s h1 (rlR w r E s) _ hr (by omega) (rlR_keep (X := hpI w N a) (fun _ _ _ => hp_rlx hw hN) hr hpE s (by omega)) hc1 hf1 (fun h2 hc2 hf2 => ?_))
      rw [Bool.or_assoc]
      exact ih (s + 1) h2 (by omega) hc2 hf2
  have middle : ∀ k, (∀ h2, mwA h2 c N (bfD w N a (k + 1)) → zFr (fun z => z = 148 ∨ z = 149) h h2 → zW (d + 2) m_Mo_findsLeast e 40 [.ref 139, zD, .int (b01 (flA w N (bfD w N a k) N)), zD, zD] [] h2 Q) →
      ∀ j r (h1 : zH), r + j = N → mwA h1 c N (rlA w N (bfD w N a k) r) → zFr (fun z => z = 148 ∨ z = 149) h h1 → zW (d + 2) m_Mo_findsLeast e 48 [.ref 139, zD, .int (b01 (flA w N (bfD w N a k) r)), .int (nI r), zD] [] h1 Q := by
    intro k Kn j
    induction j with
    | zero =>
      intro r h1 hj hc1 hf1
      have : r = N := by omega
      subst this
      obtain ⟨hG1, hs1⟩ := st1 h1 hf1
      refine b_Mo_findsLeast_48 ⟨G, hG1, _, r0, 115, st, hs1, zi0, ?_⟩
      rw [show (0 : Int32).toNatClampNeg = 0 from rfl, st0]
      exact ifT (Int32.le_refl _) (Kn h1 hc1 hf1)
    | succ j ih =>
      intro r h1 hj hc1 hf1
      obtain ⟨hG1, hs1⟩ := st1 h1 hf1
      refine b_Mo_findsLeast_48 ⟨G, hG1, _, r0, 115, st, hs1, zi0, ?_⟩
      rw [show (0 : Int32).toNatClampNeg = 0 from rfl, st0]
      have := inner (flA w N (bfD w N a k) r) r (rlA w N (bfD w N a k) r) (by omega) (rlA_keep (X := hpI w N a) (fun _ _ _ => hp_rlx hw hN) (hp_bf hw hN ha k) r (by omega)) (fun h2 hc2 hf2 => ih (r + 1) h2 (by omega) hc2 hf2) N 0 h1 (by omega) hc1 hf1
      rw [show flR w r (rlA w N (bfD w N a k) r) 0 = false from rfl, Bool.or_false] at this
      exact ifF (nI_ge (by omega) (by omega)) this
  have outer : ∀ j k (b : Bool) (h1 : zH), k + j = 7 → (b = false → bfD w N a k = bfD w N a 6) → (k = 7 → b = false) → mwA h1 c N (bfD w N a k) → zFr (fun z => z = 148 ∨ z = 149) h h1 → zW (d + 2) m_Mo_findsLeast e 40 [.ref 139, zD, .int (b01 b), zD, zD] [] h1 Q := by
    intro j
    induction j with
    | zero =>
      intro k b h1 hj hb hb7 hc1 hf1
      have hbf := hb7 (by omega)
      rw [hb hbf] at hc1
      rw [hbf]
      exact b_Mo_findsLeast_40 (ifT rfl (K h1 hc1 hf1))
    | succ j ih =>
      intro k b h1 hj hb hb7 hc1 hf1
      refine b_Mo_findsLeast_40 ?_
      cases b with
      | false =>
        rw [hb rfl] at hc1
        exact ifT rfl (K h1 hc1 hf1)
      | true =>
        refine ifF (by decide) (middle k (fun h2 hc2 hf2 => ?_) N 0 h1 (by omega) hc1 hf1)
        refine ih (k + 1) _ h2 (by omega) (fun q => ?_) (fun q => ?_) hc2 hf2
        · rw [show bfD w N a (k + 1) = bfD w N a k from (flA_f N q).1]
          exact bf_end hN ha q
        · have : k = 6 := by omega
          rw [this]
          exact bf_fl hN ha
  -- the start
  obtain ⟨g0, hg0⟩ := h148
  obtain ⟨k0, hk0⟩ := h149
  refine b_Mo_findsLeast_0 ?_
  have init : ∀ j u (h1 : zH) (g k : Nat → Int32), u + j = 7 → h1.2 148 = zI 0 7 g → h1.2 149 = zI 0 7 k → (∀ x, x < u → g x = leE (zU (fun _ => bI) a 0 x)) → (∀ x, x < u → k x = hoE (zU (fun _ => bI) a 0 x)) → zFr (fun z => z = 148 ∨ z = 149) h h1 → zW (d + 2) m_Mo_findsLeast e 2 [.ref 139, .int (nI a), .int (nI u), zD, zD] [] h1 Q := by
    intro j
    induction j with
    | zero =>
      intro u h1 g k hj hg hk hg2 hk2 hf1
      have : u = 7 := by omega
      subst this
      refine b_Mo_findsLeast_2 (ifT (show nI 7 ≤ nI 7 from Int32.le_refl _) ?_)
      obtain ⟨f, hf, hf2⟩ := hc
      exact outer 7 0 true h1 (by omega) (fun q => absurd q (by decide)) (fun q => absurd q (by decide)) ⟨⟨f, by rw [hf1 _ (by decide)]; exact hf, hf2⟩, ⟨g, hg, hg2⟩, k, hk, hk2⟩ hf1
    | succ j ih =>
      intro u h1 g k hj hg hk hg2 hk2 hf1
      obtain ⟨hG1, hs1⟩ := st1 h1 hf1
      have go : ∀ v, v = leE (zU (fun _ => bI) a 0 u) → (0 : Int32) = hoE (zU (fun _ => bI) a 0 u) → zW (d + 2) m_Mo_findsLeast e 2 [.ref 139, .int (nI a), .int (nI (u + 1)), zD, zD] [] (zP (zP h1 148 (zI 0 7 (zU g u v))) 149 (zI 0 7 (zU k u 0))) Q := fun v hv h0 => by
        refine ih (u + 1) _ (zU g u v) (zU k u 0) (by omega) ((zP_ne _ _ (by decide)).trans (zP_same _ _ _)) (zP_same _ _ _) (fun x hx => ?_) (fun x hx => ?_) (hf1.trans ((zFr.put (Or.inl rfl)).trans (zFr.put (Or.inr rfl))))
        · by_cases ex : x = u
          · rw [ex, zU_same]; exact hv
          · rw [zU_ne _ _ ex]; exact hg2 x (by omega)
        · by_cases ex : x = u
          · rw [ex, zU_same]; exact h0
          · rw [zU_ne _ _ ex]; exact hk2 x (by omega)
      refine b_Mo_findsLeast_2 (ifF (show ¬ nI 7 ≤ nI u from nI_ge (by omega) (by decide)) ⟨G, hG1, _, r26, ifB (fun c1 => ⟨7, g, hg, zIn_nI (by omega) (by decide), ?_⟩) (fun c1 => ⟨7, g, hg, zIn_nI (by omega) (by decide), ?_⟩)⟩)
      · have eu := (nI_eq (by omega) (by omega)).mp c1
        rintro h5 rfl
        refine ⟨G, (zP_ne _ _ (by decide)).trans hG1, _, r27, 7, k, (zP_ne _ _ (by decide)).trans hk, zIn_nI (by omega) (by decide), ?_⟩
        rintro h10 rfl
        rw [nI_1, nI_clamp (by omega)]
        exact go 0 (by rw [eu, zU_same]; rfl) (by rw [eu, zU_same]; rfl)
      · have eu : u ≠ a := fun q => c1 (by rw [q])
        rintro h13 rfl
        refine ⟨G, (zP_ne _ _ (by decide)).trans hG1, _, r27, 7, k, (zP_ne _ _ (by decide)).trans hk, zIn_nI (by omega) (by decide), ?_⟩
        rintro h18 rfl
        rw [nI_1, nI_clamp (by omega)]
        exact go _ (by rw [zU_ne _ _ eu]; exact (if_pos rfl).symm) (by rw [zU_ne _ _ eu]; exact (if_pos rfl).symm)
  exact init 7 0 h g0 k0 rfl hg0 hk0 (fun x hx => absurd hx (Nat.not_lt_zero x)) (fun x hx => absurd hx (Nat.not_lt_zero x)) zFr.rf
end C
end
section
/-! The walk along THE CHAIN -/
def nxS (w : Nat → Nat → Nat) (D : Nat → Nat) (r : Nat) : Nat → Nat → Nat
  | 0, s => s
  | k + 1, s => if w r s ≠ 0 ∧ D s < bI ∧ w r s + D s = D r then s else nxS w D r k (s + 1)
def nxN (w : Nat → Nat → Nat) (D : Nat → Nat) (N r : Nat) : Nat := nxS w D r N 0
def wkN (w : Nat → Nat → Nat) (D : Nat → Nat) (N r : Nat) : Nat → Nat
  | 0 => r
  | i + 1 => nxN w D N (wkN w D N r i)
section P
variable {w : Nat → Nat → Nat} {D : Nat → Nat} {N a r s : Nat}
theorem nxS_eq : ∀ k t, s < t + k → t ≤ s → fitsN w D r s → (∀ s', s' < s → ¬ fitsN w D r s') → nxS w D r k t = s
  | 0, t, h1, h2, _, _ => by omega
  | k + 1, t, h1, h2, hf, hn => by
    show (if _ then t else nxS w D r k (t + 1)) = s
    by_cases e : t = s
    · rw [e]; exact if_pos hf
    · have hn' : ¬ (w r t ≠ 0 ∧ D t < bI ∧ w r t + D t = D r) := hn t (by omega)
      rw [if_neg hn']
      exact nxS_eq k (t + 1) (by omega) (by omega) hf hn
theorem nx_eq (hs : s < N) (hf : fitsN w D r s) (hn : ∀ s', s' < s → ¬ fitsN w D r s') : nxN w D N r = s := nxS_eq N 0 (by omega) (by omega) hf hn
theorem fit_least : ∀ s, fitsN w D r s → ∃ s0, s0 ≤ s ∧ fitsN w D r s0 ∧ ∀ s', s' < s0 → ¬ fitsN w D r s' := by
  intro s
  induction s using Nat.strongRecOn with
  | _ s ih =>
    intro h
    by_cases c : ∃ s', s' < s ∧ fitsN w D r s'
    · obtain ⟨s', h1, h2⟩ := c
      obtain ⟨s0, a1, a2, a3⟩ := ih s' h1 h2
      exact ⟨s0, by omega, a2, a3⟩
    · exact ⟨s, Nat.le_refl _, h, fun s' h1 h2 => c ⟨s', h1, h2⟩⟩
theorem nx_ok (hw : wOK w) (hN : N ≤ 7) (ha : a < N) (hr : r < N) (hra : r ≠ a) (hD : bfD w N a 6 r < bI) : nxN w (bfD w N a 6) N r < N ∧ fitsN w (bfD w N a 6) r (nxN w (bfD w N a 6) N r) ∧ ∀ s', s' < nxN w (bfD w N a 6) N r → ¬ fitsN w (bfD w N a 6) r s' := by
  obtain ⟨s, h1, h2, h3, h4⟩ := bf_next hw hN ha hr hra hD
  obtain ⟨s0, b1, b2, b3⟩ := fit_least (w := w) (D := bfD w N a 6) (r := r) s ⟨h2, h3, h4⟩
  rw [nx_eq (N := N) (by omega) b2 b3]
  exact ⟨by omega, b2, b3⟩
theorem wk_ok (hw : wOK w) (hN : N ≤ 7) (ha : a < N) (hr : r < N) (hD : bfD w N a 6 r < bI) : ∀ i, i ≤ bfD w N a 6 r % 8 → wkN w (bfD w N a 6) N r i < N ∧ bfD w N a 6 (wkN w (bfD w N a 6) N r i) < bI ∧ bfD w N a 6 (wkN w (bfD w N a 6) N r i) % 8 + i = bfD w N a 6 r % 8
  | 0, _ => ⟨hr, hD, rfl⟩
  | i + 1, hi => by
    obtain ⟨h1, h2, h3⟩ := wk_ok hw hN ha hr hD i (by omega)
    have hne : wkN w (bfD w N a 6) N r i ≠ a := fun q => by
      rw [q, (hp_bf hw hN ha 6).1] at h3
      omega
    obtain ⟨b1, b2, b3⟩ := nx_ok hw hN ha h1 hne h2
    have := bf_hop hw hN ha b1 b2.1 b2.2.1 b2.2.2
    refine ⟨b1, b2.2.1, ?_⟩
    show bfD w N a 6 (nxN w (bfD w N a 6) N (wkN w (bfD w N a 6) N r i)) % 8 + (i + 1) = _
    omega
theorem wk_end (hw : wOK w) (hN : N ≤ 7) (ha : a < N) (hr : r < N) (hD : bfD w N a 6 r < bI) {i : Nat} (hi : i ≤ bfD w N a 6 r % 8) : wkN w (bfD w N a 6) N r i = a ↔ i = bfD w N a 6 r % 8 := by
  obtain ⟨h1, h2, h3⟩ := wk_ok hw hN ha hr hD i hi
  constructor
  · intro q
    rw [q, (hp_bf hw hN ha 6).1] at h3
    omega
  · intro q
    exact bf_hop0 hw hN ha h1 h2 (by omega)
end P
section C
variable {d : Nat} {e : Nat × Nat} {h : zH} {Q : zQ} {G : Nat → Value} {c w : Nat → Nat → Nat} {N a : Nat} {r s : Nat}
/-- the Model's walk, once the first clock is put down -/
theorem cM_walk (hG : h.2 139 = zO 10 G) (hR : mR G) (hc : mwA h c N (bfD w N a 6)) (hcw : cwR c w N) (hw : wOK w) (hN : N ≤ 7) (ha : a < N) (hr : r < N) (hD : bfD w N a 6 r < bI)
    (K : ∀ h' G', h'.2 139 = zO 10 G' → (∀ k, k ≠ 29 → G' k = G k) → G' 29 = .int (nI (bfD w N a 6 r % 8 + 1)) → (∃ y, h'.2 150 = zI 0 7 y ∧ ∀ i, i ≤ bfD w N a 6 r % 8 → y i = nI (wkN w (bfD w N a 6) N r i)) → zFr (fun z => z = 139 ∨ z = 150) h h' → Q none h') :
    ∀ j i (h1 : zH) (G1 : Nat → Value) (y : Nat → Int32), i + j = bfD w N a 6 r % 8 → h1.2 139 = zO 10 G1 → (∀ k, k ≠ 29 → G1 k = G k) → G1 29 = .int (nI (i + 1)) → h1.2 150 = zI 0 7 y → (∀ i', i' ≤ i → y i' = nI (wkN w (bfD w N a 6) N r i')) → zFr (fun z => z = 139 ∨ z = 150) h h1 →
      zW (d + 1) m_Mo_findsChain e 38 [.ref 139, zD, .int (nI a), zD, zD] [] h1 Q := by
  have hp := hp_bf hw hN ha 6
  have h6 := hp_6 hN hp hr hD
  intro j
  induction j with
  | zero =>
    intro i h1 G1 y hj hG1 go g29 hy hy2 hf1
    have r28 : G1 28 = .ref 150 := (go 28 (by decide)).trans hR.2.2.2.2.2.2.2.2.2.2.1
    have ei := (wk_end hw hN ha hr hD (i := i) (by omega)).mpr (by omega)
    refine b_Mo_findsChain_38 ⟨G1, hG1, _, r28, G1, hG1, _, g29, 7, y, hy, ?_⟩
    rw [show nI (i + 1) - 1 = nI i by rw [← nI_1]; exact Int32.add_sub_cancel _ _]
    refine ⟨zIn_nI (by omega) (by decide), ?_⟩
    rw [nI_clamp (by omega), hy2 i (Nat.le_refl _), ei]
    refine ifT rfl (K h1 G1 hG1 go ?_ ⟨y, hy, fun i' hi' => hy2 i' (by omega)⟩ hf1)
    rw [g29, show i = bfD w N a 6 r % 8 by omega]
  | succ j ih =>
    intro i h1 G1 y hj hG1 go g29 hy hy2 hf1
    have hR1 : mR G1 := mR_of hR (fun k hk => go k (by omega))
    have r25 : G1 25 = .ref 147 := hR1.2.2.2.2.2.2.2.1
    have r26 : G1 26 = .ref 148 := hR1.2.2.2.2.2.2.2.2.1
    have r27 : G1 27 = .ref 149 := hR1.2.2.2.2.2.2.2.2.2.1
    have r28 : G1 28 = .ref 150 := hR1.2.2.2.2.2.2.2.2.2.2.1
    obtain ⟨u1, u2, u3⟩ := wk_ok hw hN ha hr hD i (by omega)
    have une : wkN w (bfD w N a 6) N r i ≠ a := fun q => by
      have := (wk_end hw hN ha hr hD (i := i) (by omega)).mp q
      omega
    obtain ⟨x1, x2, x3⟩ := nx_ok hw hN ha u1 une u2
    have ewk : wkN w (bfD w N a 6) N r (i + 1) = nxN w (bfD w N a 6) N (wkN w (bfD w N a 6) N r i) := rfl
    have hmi : nI (i + 1) - 1 = nI i := by rw [← nI_1]; exact Int32.add_sub_cancel _ _
    refine b_Mo_findsChain_38 ⟨G1, hG1, _, r28, G1, hG1, _, g29, 7, y, hy, ?_⟩
    rw [hmi]
    refine ⟨zIn_nI (by omega) (by decide), ?_⟩
    rw [nI_clamp (by omega), hy2 i (Nat.le_refl _)]
    refine ifF (fun q => une ((nI_eq (by omega) (by omega)).mp q)) ⟨G1, hG1, _, r28, G1, hG1, _, g29, 7, y, hy, ?_⟩
    rw [hmi]
    refine ⟨zIn_nI (by omega) (by decide), ?_⟩
    rw [nI_clamp (by omega), hy2 i (Nat.le_refl _)]
    -- found
    have found : zW (d + 1) m_Mo_findsChain e 38 [.ref 139, zD, .int (nI a), zD, zD] [] (zP (zP h1 150 (zI 0 7 (zU y (i + 1) (nI (wkN w (bfD w N a 6) N r (i + 1)))))) 139 (zO 10 (zU G1 29 (.int (nI (i + 1 + 1)))))) Q := by
      refine ih (i + 1) _ (zU G1 29 (.int (nI (i + 1 + 1)))) (zU y (i + 1) (nI (wkN w (bfD w N a 6) N r (i + 1)))) (by omega) (zP_same _ _ _) (fun k hk => by rw [zU_ne _ _ hk]; exact go k hk) rfl ((zP_ne _ _ (by decide)).trans (zP_same _ _ _)) (fun i' hi' => ?_) (hf1.trans ((zFr.put (Or.inr rfl)).trans (zFr.put (Or.inl rfl))))
      by_cases ei : i' = i + 1
      · rw [ei, zU_same]
      · rw [zU_ne _ _ ei]; exact hy2 i' (by omega)
    rw [ewk] at found
    generalize wkN w (bfD w N a 6) N r i = u at u1 u2 u3 une x1 x2 x3 found
    obtain ⟨⟨f, hf, hf2⟩, ⟨g, hg, hg2⟩, k, hk, hk2⟩ := id hc
    have hf' : h1.2 147 = zI 0 49 f := by rw [hf1 _ (by decide)]; exact hf
    have hg' : h1.2 148 = zI 0 7 g := by rw [hf1 _ (by decide)]; exact hg
    have hk' : h1.2 149 = zI 0 7 k := by rw [hf1 _ (by decide)]; exact hk
    have hub := hp_bd hN hp u1 u2
    have hu6 := hp_6 hN hp u1 u2
    have eu : leE (bfD w N a 6 u) = nI (bfD w N a 6 u / 8) := if_neg (by omega)
    have euh : hoE (bfD w N a 6 u) = nI (bfD w N a 6 u % 8) := if_neg (by omega)
    have search : ∀ m t, t + m = nxN w (bfD w N a 6) N u → zW (d + 1) m_Mo_findsChain e 68 [.ref 139, zD, .int (nI a), .int (nI u), .int (nI t)] [] h1 Q := by
      intro m
      induction m with
      | zero =>
        intro t ht
        rw [Nat.add_zero] at ht
        rw [← ht] at found x1 x2
        obtain ⟨y1, y2, y3⟩ := x2
        have htb := hp_bd hN hp x1 y2
        have ht6 := hp_6 hN hp x1 y2
        obtain ⟨hcb, hwe⟩ := hcw u t u1 x1
        have hc0 : c u t ≠ 0 := fun q => by rw [hwe, if_pos q] at y1; exact y1 rfl
        rw [if_neg hc0] at hwe
        have et : leE (bfD w N a 6 t) = nI (bfD w N a 6 t / 8) := if_neg (by omega)
        have eth : hoE (bfD w N a 6 t) = nI (bfD w N a 6 t % 8) := if_neg (by omega)
        refine b_Mo_findsChain_68 ⟨G1, hG1, _, r25, 49, f, hf', ?_⟩
        rw [ix7b]
        refine ⟨zIn_nI (by omega) (by decide), ?_⟩
        rw [nI_clamp (by omega), hf2 u t u1 x1]
        refine ifF (nI_ne0 (by omega) (by omega)) ⟨G1, hG1, _, r26, 7, g, hg', zIn_nI (by omega) (by decide), ?_⟩
        rw [nI_clamp (by omega), hg2 t (by omega), et]
        refine ifF (fun q => by rw [le_big] at q; have := (nI_eq (by omega) (by decide)).mp q; omega) (b_Mo_findsChain_95 ⟨G1, hG1, _, r26, 7, g, hg', zIn_nI (by omega) (by decide), G1, hG1, _, r25, 49, f, hf', ?_⟩)
        rw [ix7b]
        refine ⟨zIn_nI (by omega) (by decide), G1, hG1, _, r26, 7, g, hg', zIn_nI (by omega) (by decide), ?_⟩
        rw [nI_clamp (by omega), nI_clamp (by omega), nI_clamp (by omega), hg2 t (by omega), hg2 u (by omega), hf2 u t u1 x1, et, eu, nI_add]
        refine ifT (by congr 1; omega) ⟨G1, hG1, _, r27, 7, k, hk', zIn_nI (by omega) (by decide), G1, hG1, _, r27, 7, k, hk', zIn_nI (by omega) (by decide), ?_⟩
        rw [hk2 t (by omega), hk2 u (by omega), eth, euh, nI_1]
        refine ifT (by congr 1; omega) ⟨G1, hG1, _, r28, G1, hG1, _, g29, 7, y, hy, zIn_nI (by omega) (by decide), ?_⟩
        rintro h27 rfl
        refine ⟨G1, (zP_ne _ _ (by decide)).trans hG1, _, g29, G1, (zP_ne _ _ (by decide)).trans hG1, ?_⟩
        rintro h31 rfl
        rw [nI_1, nI_clamp (by omega)]
        exact found
      | succ m ihm =>
        intro t ht
        have htN : t < N := by omega
        have hno := x3 t (by omega)
        obtain ⟨hcb, hwe⟩ := hcw u t u1 htN
        have next := ihm (t + 1) (by omega)
        refine b_Mo_findsChain_68 ⟨G1, hG1, _, r25, 49, f, hf', ?_⟩
        rw [ix7b]
        refine ⟨zIn_nI (by omega) (by decide), ?_⟩
        rw [nI_clamp (by omega), hf2 u t u1 htN, nI_1]
        refine ifB (fun _ => next) (fun c0 => ⟨G1, hG1, _, r26, 7, g, hg', zIn_nI (by omega) (by decide), ?_⟩)
        have hc0 : c u t ≠ 0 := fun q => c0 (by rw [q]; rfl)
        rw [if_neg hc0] at hwe
        rw [nI_clamp (by omega), hg2 t (by omega)]
        by_cases c1 : bfD w N a 6 t = bI
        · exact ifT (by unfold leE; rw [if_pos c1]) next
        · have htl : bfD w N a 6 t < bI := by have := hp.2.1 t; omega
          have htb := hp_bd hN hp htN htl
          have ht6 := hp_6 hN hp htN htl
          have et : leE (bfD w N a 6 t) = nI (bfD w N a 6 t / 8) := if_neg (by omega)
          have eth : hoE (bfD w N a 6 t) = nI (bfD w N a 6 t % 8) := if_neg (by omega)
          have hns : ¬ (w u t + bfD w N a 6 t = bfD w N a 6 u) := fun q => hno ⟨by omega, htl, q⟩
          rw [et]
          refine ifF (fun q => by rw [le_big] at q; have := (nI_eq (by omega) (by decide)).mp q; omega) (b_Mo_findsChain_95 ⟨G1, hG1, _, r26, 7, g, hg', zIn_nI (by omega) (by decide), G1, hG1, _, r25, 49, f, hf', ?_⟩)
          rw [ix7b]
          refine ⟨zIn_nI (by omega) (by decide), G1, hG1, _, r26, 7, g, hg', zIn_nI (by omega) (by decide), ?_⟩
          rw [nI_clamp (by omega), nI_clamp (by omega), nI_clamp (by omega), hg2 t (by omega), hg2 u (by omega), hf2 u t u1 htN, et, eu, nI_add, nI_1]
          refine ifB (fun c2 => ⟨G1, hG1, _, r27, 7, k, hk', zIn_nI (by omega) (by decide), G1, hG1, _, r27, 7, k, hk', zIn_nI (by omega) (by decide), ?_⟩) (fun _ => next)
          rw [hk2 t (by omega), hk2 u (by omega), eth, euh, nI_1]
          refine ifF (fun q => ?_) next
          have c2' := (nI_eq (by omega) (by omega)).mp c2
          have q' := (nI_eq (by omega) (by omega)).mp q
          omega
    exact search _ 0 (Nat.zero_add _)
end C
end
