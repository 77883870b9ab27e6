/-! what a program checks of each entry of a table: it is the bytecode's, its operands are the constant pool's -/
abbrev zrB (r : zRec) : ByteArray := r.2.1
abbrev zrL (r : zRec) : Nat := r.2.2.1
abbrev zrT (r : zRec) : Option FieldType := r.2.2.2.1
abbrev zrF (r : zRec) : Nat := r.2.2.2.2.1
abbrev zrW (r : zRec) : Nat := r.2.2.2.2.2.1
abbrev zrO (r : zRec) : Nat := r.2.2.2.2.2.2.1
abbrev zrN (r : zRec) : Nat := r.2.2.2.2.2.2.2.1
abbrev zrK (r : zRec) : Nat := r.2.2.2.2.2.2.2.2
def zDc (r : zRec) (pc : Nat) (ins : Instr) (nx L : Nat) : Bool := decide (decode (zrB r) pc = .ok (ins, L)) && decide (nx = pc + L)
def zTg (pc : Nat) : List Int → List Nat → Bool
  | [], [] => true
  | o :: os, t :: ts => decide ((pc : Int) + o = (t : Int)) && zTg pc os ts
  | _, _ => false
/-- a field's kind: 0 int, 1 long, 2 a reference, 3 truth -/
def zKd (ty : FieldType) : Nat := match ty with
  | .int => 0
  | .long => 1
  | .object _ => 2
  | .array _ => 2
  | .boolean => 3
  | _ => 9
def zFk (ci k : Nat) : Option (Nat × Bool × Bool) := match vwCl[ci]? with
  | some (_, T, _) => (parseFieldDescriptor (T k).2.2.1).map (fun ty => (zKd ty, (T k).2.2.2, true))
  | none => none
def zTys' (ci : Nat) : Option (List Nat) := match vwCl[ci]? with
  | some (_, T, N) => (List.range N).mapM (fun k => (parseFieldDescriptor (T k).2.2.1).map fun ty => match zKd ty with | 3 => 0 | d => d)
  | none => none
def zInvk (r : zRec) (B : Nat × Nat) (idx z b c : Nat) (tg : List Nat) (kd : Nat) : Bool := zCpm.contains (zrO r, idx, z) && (match zMs[z]? with
  | some q => decide (zrK q = kd) && decide (b = zrN q + (if kd = 2 then 0 else 1)) && Nat.ble (zrF q + 1) (zrF r) && Nat.ble (8 + (zrL q + 11) + zrW q) (zrW r) && decide ((zT z).2.1 = (match tg with | [m, n] => (m, n) | _ => (0, 0))) && (decide (tg = []) || (kd == 1 && tg.length == 2)) && decide ((zT z).2.2 = zrL q) && (match zrT q with | none => c == 9 | some ty => (match zKd ty with | 3 => c == 0 | d => c == d))
  | none => false)
def zChk (r : zRec) (B : Nat × Nat) (pc : Nat) (t : zEnt) : Bool := match t with
  | (ins, nx, a, b, c, w, _, tg) => match ins with
    | .iconst n => zDc r pc ins nx 1 && decide (w = .int (Int32.ofInt n))
    | .bipush n => zDc r pc ins nx 2 && decide (w = .int (Int8.ofInt n).toInt32)
    | .sipush n => zDc r pc ins nx 3 && decide (w = .int (Int16.ofInt n).toInt32)
    | .lconst n => zDc r pc ins nx 1 && decide (w = .long (Int64.ofNat (n : Nat)))
    | .ldc i => zDc r pc ins nx 2 && (match w with | .int v => zCpk.contains (zrO r, i, v) | .ref k => decide (zrO r = 6) && decide ((zSix.map (·.1))[k - 1]? = some i) && Nat.ble 1 k | _ => false)
    | .ldc_w i => zDc r pc ins nx 3 && (match w with | .int v => zCpk.contains (zrO r, i, v) | _ => false)
    | .ldc2_w i => zDc r pc ins nx 3 && (match w with | .long v => zCpl.contains (zrO r, i, v) | _ => false)
    | .iload i => zDc r pc ins nx 2 && decide (i = a)
    | .lload i => zDc r pc ins nx 2 && decide (i = a)
    | .aload i => zDc r pc ins nx 2 && decide (i = a)
    | .iload_n i => zDc r pc ins nx 1 && decide ((i : Nat) = a)
    | .lload_n i => zDc r pc ins nx 1 && decide ((i : Nat) = a)
    | .aload_n i => zDc r pc ins nx 1 && decide ((i : Nat) = a)
    | .istore i => zDc r pc ins nx 2 && decide (i = a) && Nat.blt a (zrL r)
    | .astore i => zDc r pc ins nx 2 && decide (i = a) && Nat.blt a (zrL r)
    | .lstore i => zDc r pc ins nx 2 && decide (i = a) && Nat.blt (a + 1) (zrL r)
    | .istore_n i => zDc r pc ins nx 1 && decide ((i : Nat) = a) && Nat.blt a (zrL r)
    | .astore_n i => zDc r pc ins nx 1 && decide ((i : Nat) = a) && Nat.blt a (zrL r)
    | .lstore_n i => zDc r pc ins nx 1 && decide ((i : Nat) = a) && Nat.blt (a + 1) (zrL r)
    | .iinc i n => zDc r pc ins nx 3 && decide (i = a) && decide (w = .int (Int32.ofInt n)) && Nat.blt a (zrL r)
    | .goto o => zDc r pc ins nx 3 && decide ((pc : Int) + o = (a : Int))
    | .if_icmp _ o => zDc r pc ins nx 3 && decide ((pc : Int) + o = (a : Int))
    | .ifCond _ o => zDc r pc ins nx 3 && decide ((pc : Int) + o = (a : Int))
    | .tableswitch d lo hi offs => decide (decode (zrB r) pc = .ok (ins, nx - pc)) && decide (lo = (b : Int)) && decide (hi = (b : Int) + (tg.length : Int) - 1) && decide ((pc : Int) + d = (a : Int)) && zTg pc offs.toList tg && Nat.blt (b + tg.length) 1000
    | .getfield i => zDc r pc ins nx 3 && zCpf.contains (zrO r, i, a, b)
    | .putfield i => zDc r pc ins nx 3 && zCpf.contains (zrO r, i, a, b) && (match zFk a b with | some (d, fin, _) => decide (d = c) && Nat.ble c 3 && (bif fin then decide (r.1.name = "<init>") && decide (a = zrO r) else true) | none => false)
    | .iaload => zDc r pc ins nx 1 && (a == 0 || a == 3)
    | .baload => zDc r pc ins nx 1 && (a == 1 || a == 2)
    | .aaload => zDc r pc ins nx 1 && (a == 0 || a == 3 || a == 4)
    | .aastore => zDc r pc ins nx 1 && (a == 0 || a == 3 || a == 4)
    | .arraylength => zDc r pc ins nx 1 && (match b with | 0 => Nat.ble a 3 | 1 => true | _ => a == 0 || a == 3 || a == 4)
    | .new i => zDc r pc ins nx 3 && zCpn.contains (zrO r, i, a) && decide (zTys' a = some tg) && decide (tg.length = b)
    | .newarray ty => zDc r pc ins nx 2 && (match ty with | .int => a == 0 && b == 0 | .boolean => a == 1 && b == 0 | .byte => a == 2 && b == 0 | .long => b == 1 | _ => false)
    | .anewarray i => zDc r pc ins nx 3 && zCpa.contains (zrO r, i, a) && (a == 0 || a == 3 || a == 4)
    | .ireturn => zDc r pc ins nx 1 && (match zrT r with | some .int => c == 0 | some .boolean => c == 3 | _ => false) && (decide (B = (0, 0)) || zrO r == 11)
    | .lreturn => zDc r pc ins nx 1 && decide (zrT r = some .long) && decide (B = (0, 0))
    | .areturn => zDc r pc ins nx 1 && (match zrT r with | some ty => zKd ty == 2 | none => false) && decide (B = (0, 0))
    | .return_ => zDc r pc ins nx 1 && decide (zrT r = none) && (tg.length == 1 || decide (B = (0, 0)))
    | .invokestatic i => zDc r pc ins nx 3 && (match w with | .null => zInvk r B i a b c tg 2 | _ => zrO r == 0 && i == zCopyIx && Nat.ble 1 (zrF r) && Nat.ble 48 (zrW r))
    | .invokespecial i => zDc r pc ins nx 3 && (match w with | .null => zInvk r B i a b c tg 1 | _ => zCpo.contains (zrO r, i) && Nat.ble 1 (zrF r) && Nat.ble 20 (zrW r))
    | .invokevirtual i => zDc r pc ins nx 3 && (match w with | .ref ci => zInvk r B i a b c tg 0 && decide ((vwCl[ci]?).map (·.1) = (zMs[a]?).map (fun q => q.1.cls)) && Nat.blt ci 11 | _ => zrO r == 6 && (match b with | 0 => i == zStrIx.1 && Nat.ble 2 (zrF r) && Nat.ble 48 (zrW r) | _ => i == zStrIx.2 && Nat.ble 4 (zrF r) && Nat.ble 111 (zrW r)))
    | _ => zDc r pc ins nx 1
