/-! THE CHECK of a method's instructions against its bytes: each is what decode says, goes on where the bytes go on, and links to what the tables say. -/
def fall (pcs : List Nat) (nx q : Nat) : Bool := decide (pcs[nx]? = some q)
def jmp (pcs : List Nat) (a pc : Nat) (off : Int) : Bool := match pcs[a]? with
  | some q => decide ((pc : Int) + off = (q : Int))
  | none => false
def okTag (a b : Nat) : Bool := Nat.blt a 2 && !(Nat.beq a 0 && Nat.beq b 20)
noncomputable def chkCall (k oc x a b mc ms c rf rl : Nat) : Bool := lnkL.any (fun e => Nat.beq e.1 oc && Nat.beq e.2.1 x && Nat.beq e.2.2.1 a) && (match metL[a]?, MT[a]? with
  | some (k', _, _, _, _, n), some (_, _, nL, _, oc', _, _, (f, w), (mc', ms')) => Nat.beq k k' && (match k with
    | 1 => Nat.beq b n
    | _ => Nat.beq b (n + 1)) && Nat.beq mc mc' && Nat.beq ms ms' && Nat.ble (f + 1) rf && Nat.ble (8 + (nL + 11) + w) rl && (match k with
    | 0 => Nat.beq c oc' && Nat.ble c 8
    | 1 => Nat.beq c 99
    | _ => Nat.beq c 98)
  | _, _ => false)
def chkPrm (oc x a rf rl : Nat) : Bool := prmL.any (fun e => Nat.beq e.1 oc && Nat.beq e.2.1 x && Nat.beq e.2.2.1 a) && Nat.ble 1 rf && Nat.ble 40 rl
noncomputable def chkI (oc : Nat) (ini : Bool) (ret : Option FieldType) (rf rl : Nat) (pcs : List Nat) (pc n a b nx : Nat) (v : Vv) (ts : List Nat) (i : Instr) : Bool := match i with
  | .iconst k => Nat.beq n 1 && fall pcs nx (pc + 1) && decide (v = vi (Int32.ofInt k))
  | .bipush k => Nat.beq n 2 && fall pcs nx (pc + 2) && decide (v = vi (Int8.ofInt k).toInt32)
  | .sipush k => Nat.beq n 3 && fall pcs nx (pc + 3) && decide (v = vi (Int16.ofInt k).toInt32)
  | .lconst k => Nat.beq n 1 && fall pcs nx (pc + 1) && decide (v = vl (Int64.ofNat (k : Nat)))
  | .ldc x => Nat.beq n 2 && fall pcs nx (pc + 2) && conL.any (fun e => Nat.beq e.1 oc && Nat.beq e.2.1 x && decide (e.2.2.1 = v)) && (match v with
    | .inl _ => true
    | _ => false)
  | .ldc_w x => Nat.beq n 3 && fall pcs nx (pc + 3) && conL.any (fun e => Nat.beq e.1 oc && Nat.beq e.2.1 x && decide (e.2.2.1 = v)) && (match v with
    | .inl _ => true
    | _ => false)
  | .ldc2_w x => Nat.beq n 3 && fall pcs nx (pc + 3) && conL.any (fun e => Nat.beq e.1 oc && Nat.beq e.2.1 x && decide (e.2.2.1 = v)) && (match v with
    | .inr (.inl _) => true
    | _ => false)
  | .aconst_null => Nat.beq n 1 && fall pcs nx (pc + 1)
  | .getstatic x => Nat.beq n 3 && fall pcs nx (pc + 3) && staL.any (fun e => Nat.beq e.1 oc && Nat.beq e.2.1 x && Nat.beq e.2.2.1 a)
  | .iload k => Nat.beq n 2 && fall pcs nx (pc + 2) && Nat.beq a k
  | .iload_n k => Nat.beq n 1 && fall pcs nx (pc + 1) && Nat.beq a k
  | .lload k => Nat.beq n 2 && fall pcs nx (pc + 2) && Nat.beq a k
  | .lload_n k => Nat.beq n 1 && fall pcs nx (pc + 1) && Nat.beq a k
  | .aload k => Nat.beq n 2 && fall pcs nx (pc + 2) && Nat.beq a k
  | .aload_n k => Nat.beq n 1 && fall pcs nx (pc + 1) && Nat.beq a k
  | .istore k => Nat.beq n 2 && fall pcs nx (pc + 2) && Nat.beq a k
  | .istore_n k => Nat.beq n 1 && fall pcs nx (pc + 1) && Nat.beq a k
  | .lstore k => Nat.beq n 2 && fall pcs nx (pc + 2) && Nat.beq a k
  | .lstore_n k => Nat.beq n 1 && fall pcs nx (pc + 1) && Nat.beq a k
  | .astore k => Nat.beq n 2 && fall pcs nx (pc + 2) && Nat.beq a k
  | .astore_n k => Nat.beq n 1 && fall pcs nx (pc + 1) && Nat.beq a k
  | .iinc k c => Nat.beq n 3 && fall pcs nx (pc + 3) && Nat.beq a k && decide (v = vi (Int32.ofInt c))
  | .iadd | .isub | .imul | .iand | .ior | .ixor | .ishl | .ishr | .iushr | .idiv | .irem | .ineg | .i2b | .ladd | .lsub | .lmul | .ldiv | .lrem | .lcmp | .i2l | .l2i | .iaload | .baload | .aaload | .iastore | .bastore | .aastore | .arraylength | .dup | .pop | .dup2 => Nat.beq n 1 && fall pcs nx (pc + 1)
  | .goto off => Nat.beq n 3 && jmp pcs a pc off
  | .if_icmp _ off => Nat.beq n 3 && fall pcs nx (pc + 3) && jmp pcs a pc off
  | .ifCond _ off => Nat.beq n 3 && fall pcs nx (pc + 3) && jmp pcs a pc off
  | .ifnull off => Nat.beq n 3 && fall pcs nx (pc + 3) && jmp pcs a pc off
  | .ifnonnull off => Nat.beq n 3 && fall pcs nx (pc + 3) && jmp pcs a pc off
  | .if_acmp _ off => Nat.beq n 3 && fall pcs nx (pc + 3) && jmp pcs a pc off
  | .getfield x => Nat.beq n 3 && fall pcs nx (pc + 3) && fldL.any (fun e => Nat.beq e.1 oc && Nat.beq e.2.1 x && Nat.beq e.2.2.1 a && Nat.beq e.2.2.2.1 b && decide (ts = [e.2.2.2.2.1]))
  | .putfield x => Nat.beq n 3 && fall pcs nx (pc + 3) && fldL.any (fun e => Nat.beq e.1 oc && Nat.beq e.2.1 x && Nat.beq e.2.2.1 a && Nat.beq e.2.2.2.1 b && decide (ts = [e.2.2.2.2.1]) && (!(fT a b).2.2.2 || (ini && !e.2.2.2.2.2.2 && decide ((fT a b).1 = clsN oc))))
  | .new x => Nat.beq n 3 && fall pcs nx (pc + 3) && okTag a b && decide (ts = [fN (sh (a, b, 0))]) && newL.any (fun e => Nat.beq e.1 oc && Nat.beq e.2.1 x && Nat.beq e.2.2.1 (sh (a, b, 0)))
  | .newarray t => Nat.beq n 2 && fall pcs nx (pc + 2) && okTag a b && ((decide (t = .int) && Nat.beq (sh (a, b, 0)) 20) || (decide (t = .boolean) && Nat.beq (sh (a, b, 0)) 21))
  | .anewarray x => Nat.beq n 3 && fall pcs nx (pc + 3) && okTag a b && arrL.any (fun e => Nat.beq e.1 oc && Nat.beq e.2.1 x && Nat.beq e.2.2.1 (sh (a, b, 0)))
  | .multianewarray x d => Nat.beq n 4 && fall pcs nx (pc + 4) && Nat.beq x 23 && Nat.beq d 2 && Nat.beq oc 5 && Nat.beq a 0 && Nat.beq b 12 && decide (ts = [13])
  | .tableswitch d lo hi offs => jmp pcs a pc d && decide (lo = (b : Int)) && decide (hi + 1 = (b : Int) + ts.length) && Nat.beq offs.size ts.length && (ts.zip offs.toList).all (fun e => jmp pcs e.1 pc e.2) && Nat.blt (b + ts.length) 1000
  | .invokevirtual x => Nat.beq n 3 && fall pcs nx (pc + 3) && (match ts with
    | [mc, ms, c] => chkCall 0 oc x a b mc ms c rf rl
    | _ => false)
  | .invokespecial x => Nat.beq n 3 && fall pcs nx (pc + 3) && (match ts with
    | [] => Nat.beq a 1 && chkPrm oc x a rf rl
    | [mc, ms, c] => chkCall 2 oc x a b mc ms c rf rl
    | _ => false)
  | .invokestatic x => Nat.beq n 3 && fall pcs nx (pc + 3) && (match ts with
    | [] => Nat.ble 2 a && Nat.ble a 5 && chkPrm oc x a rf rl
    | [mc, ms, c] => chkCall 1 oc x a b mc ms c rf rl
    | _ => false)
  | .ireturn => Nat.beq n 1 && ((Nat.beq a 0 && decide (ret = some .int)) || (Nat.beq a 1 && decide (ret = some .boolean)))
  | .lreturn => Nat.beq n 1 && decide (ret = some .long)
  | .areturn => Nat.beq n 1 && decide (ret = some (.object "NoiseTithe$Kind"))
  | .return_ => Nat.beq n 1 && decide (ret = none)
  | _ => false
noncomputable def chk1 (r : MRow) (e : Ins × Nat) : Bool := match r, e with
  | (y, cc, nL, ret, oc, cd, pcs, (rf, rl), _), ((i, a, b, nx, v, ts), pc) => (match decode cc pc with
      | .ok (j, n) => decide (i = j) && chkI oc (decide (y.name = "<init>")) ret rf rl pcs pc n a b nx v ts i
      | .error _ => false)
noncomputable def chkH (r : MRow) : Bool := match r with
  | (_, _, _, _, _, cd, pcs, _, _) => Nat.beq cd.length pcs.length && decide (pcs[0]? = some 0)
noncomputable def chkR (r : MRow) : Bool := chkH r && (r.2.2.2.2.2.1.zip r.2.2.2.2.2.2.1).all (chk1 r)
theorem all_cut {α : Type} {f : α → Bool} (n : Nat) {l : List α} (h1 : (l.take n).all f = true) (h2 : (l.drop n).all f = true) : l.all f = true := by
  rw [← List.take_append_drop n l, List.all_append, h1, h2]; rfl
