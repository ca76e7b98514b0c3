/-! A SMALL MACHINE over an abstract heap, to which the walks of all methods are brought once and for all (part 05 shows that what it does, the JVM does). An object is named by (side, tag, number): side 0 the class, side 1 the reference, side 2 the script. -/
abbrev Id3 := Nat × Nat × Nat
abbrev Vv := Int32 ⊕ (Int64 ⊕ (Option Id3 ⊕ Unit))
abbrev vi (x : Int32) : Vv := .inl x
abbrev vl (x : Int64) : Vv := .inr (.inl x)
abbrev vr (r : Option Id3) : Vv := .inr (.inr (.inl r))
abbrev vo (s t i : Nat) : Vv := .inr (.inr (.inl (some (s, t, i))))
abbrev vu : Vv := .inr (.inr (.inr ()))
abbrev Side := (Nat → Nat → Nat → Int32) × (Nat → Nat → Nat → Int64) × (Nat → Nat → Nat → Option Id3)
abbrev Mem := Side × Side × Side × (Nat → Nat → Nat)
/-- the shapes by tags: 0 .. 7 objects of the classes in the order of clsT, 8 a constant of Kind; arrays: 20 int, 21 boolean, 22 Cells, 23 Street, 24 House, 25 Hour, 26 of int arrays, 30 the script -/
def sh0 (t : Nat) : Nat := match t with
  | 0 => 6 | 1 => 0 | 2 => 20 | 3 => 22 | 4 => 22 | 5 => 5 | 6 => 23 | 7 => 24 | 8 => 3 | 9 => 25 | 10 => 2 | 11 => 20 | 12 => 26 | 13 => 20 | 14 => 4 | 15 => 20 | 16 => 20 | 17 => 20 | 18 => 1 | 19 => 20 | 20 => 8 | _ => 99
def sh1 (t : Nat) : Nat := match t with
  | 0 => 7 | 15 => 21 | _ => 20
def sh (o : Id3) : Nat := match o.1 with
  | 0 => sh0 o.2.1
  | 1 => sh1 o.2.1
  | _ => 30
def ln0 (t i : Nat) : Nat := match t with
  | 2 => if i < 6 then 40 else 80
  | 3 => 6 | 4 => 4 | 6 => 3 | 7 => 8 | 9 => 40 | 11 => 8 | 12 => 8 | 13 => 8 | 15 => 256 | 16 => 256 | 17 => 256 | 19 => 6 | _ => 0
def ln1 (t : Nat) : Nat := match t with
  | 1 => 6 | 2 => 6 | 3 => 240 | 4 => 40 | 5 => 4 | 6 => 320 | 7 => 16 | 8 => 16 | 9 => 16 | 10 => 8 | 11 => 8 | 12 => 480 | 13 => 1740 | 14 => 8 | 15 => 160 | 16 => 8 | 17 => 256 | 18 => 64 | 19 => 256 | _ => 0
def ln (o : Id3) : Nat := match o.1 with
  | 0 => ln0 o.2.1 o.2.2
  | 1 => ln1 o.2.1
  | _ => o.2.2
/-- what the constants of Kind hold: number, parent, halves -/
def kcon (f k : Nat) : Int32 := match f with
  | 0 => (match k with | 0 => 0 | 1 => 1 | 2 => 2 | 3 => 3 | 4 => 4 | _ => 5)
  | 1 => (match k with | 0 => 0 | 1 => 0 | 2 => 0 | 3 => 0 | 4 => 2 | _ => 3)
  | _ => (match k with | 0 => 2 | 1 => 4 | 2 => 1 | 3 => 2 | 4 => 0 | _ => 2)
def sd (m : Mem) (s : Nat) : Side := match s with
  | 0 => m.1 | 1 => m.2.1 | _ => m.2.2.1
def up3 {α : Type} (f : Nat → Nat → Nat → α) (t i k : Nat) (v : α) : Nat → Nat → Nat → α := fun t' i' k' => if t' = t ∧ i' = i ∧ k' = k then v else f t' i' k'
def gI (m : Mem) (o : Id3) (k : Nat) : Int32 := (sd m o.1).1 o.2.1 o.2.2 k
def gL (m : Mem) (o : Id3) (k : Nat) : Int64 := (sd m o.1).2.1 o.2.1 o.2.2 k
def gR (m : Mem) (o : Id3) (k : Nat) : Option Id3 := (sd m o.1).2.2 o.2.1 o.2.2 k
def sS (m : Mem) (s : Nat) (A : Side) : Mem := match s with
  | 0 => (A, m.2) | 1 => (m.1, A, m.2.2) | _ => (m.1, m.2.1, A, m.2.2.2)
def pI (m : Mem) (o : Id3) (k : Nat) (v : Int32) : Mem := sS m o.1 (up3 (sd m o.1).1 o.2.1 o.2.2 k v, (sd m o.1).2)
def pL (m : Mem) (o : Id3) (k : Nat) (v : Int64) : Mem := sS m o.1 ((sd m o.1).1, up3 (sd m o.1).2.1 o.2.1 o.2.2 k v, (sd m o.1).2.2)
def pR (m : Mem) (o : Id3) (k : Nat) (v : Option Id3) : Mem := sS m o.1 ((sd m o.1).1, (sd m o.1).2.1, up3 (sd m o.1).2.2 o.2.1 o.2.2 k v)
/-- n more objects of a tag -/
def al (m : Mem) (s t n : Nat) : Mem := (m.1, m.2.1, m.2.2.1, fun s' t' => if s' = s ∧ t' = t then m.2.2.2 s' t' + n else m.2.2.2 s' t')
/-- ints copied -/
def cpI (m : Mem) (src dst : Id3) (sp dp n : Nat) : Mem := sS m dst.1 (fun t i k => if t = dst.2.1 ∧ i = dst.2.2 then va_cpy (gI m src) (gI m dst) sp dp n k else (sd m dst.1).1 t i k, (sd m dst.1).2)
/-- the outer array's rows -/
def rws (m : Mem) (o : Id3) (t i n : Nat) : Mem := sS m o.1 ((sd m o.1).1, (sd m o.1).2.1, fun t' i' k => if t' = o.2.1 ∧ i' = o.2.2 then (if k < n then some (o.1, t, i + k) else none) else (sd m o.1).2.2 t' i' k)
/-- instruction, number a, number b, the next place, a constant, more numbers -/
abbrev Ins := Instr × Nat × Nat × Nat × Vv × List Nat
abbrev St := Nat × List Vv × List Vv × Mem × Nat × Nat
/-- what an instruction does: goes on; goes on if; branches; switches; calls; returns; or nothing of these -/
abbrev Eff := St ⊕ ((Prop × St) ⊕ ((Prop × St × St) ⊕ (List (Prop × St) ⊕ ((Nat × List Vv × Nat × Nat × St) ⊕ ((Prop × Option Vv × Mem) ⊕ Unit)))))
abbrev eP (s : St) : Eff := .inl s
abbrev eQ (q : Prop) (s : St) : Eff := .inr (.inl (q, s))
abbrev eB (c : Prop) (s t : St) : Eff := .inr (.inr (.inl (c, s, t)))
abbrev eS (l : List (Prop × St)) : Eff := .inr (.inr (.inr (.inl l)))
abbrev eC (y : Nat) (a : List Vv) (mc ms : Nat) (s : St) : Eff := .inr (.inr (.inr (.inr (.inl (y, a, mc, ms, s)))))
abbrev eR (q : Prop) (v : Option Vv) (m : Mem) : Eff := .inr (.inr (.inr (.inr (.inr (.inl (q, v, m))))))
abbrev eN : Eff := .inr (.inr (.inr (.inr (.inr (.inr ())))))
def clr : List Vv → Nat → List Vv
  | [], _ => []
  | ls, 0 => ls
  | x :: r, n + 1 => (match n with
    | 0 => (match x with
      | .inr (.inl _) => vu
      | y => y) :: r
    | k + 1 => x :: clr r (k + 1))
def stL (ls : List Vv) (a : Nat) (v : Vv) : List Vv := (clr ls a).set a v
def ctg (v : Vv) : Nat := match v with
  | .inr (.inl _) => 2
  | _ => 1
def ctgs : List Vv → Nat
  | [] => 0
  | v :: r => ctg v + ctgs r
def eLdI (ls : List Vv) (a nx : Nat) (st : List Vv) (m : Mem) (uc us : Nat) : Eff := match ls[a]? with
  | some (.inl x) => eP (nx, ls, vi x :: st, m, uc, us)
  | _ => eN
def eLdL (ls : List Vv) (a nx : Nat) (st : List Vv) (m : Mem) (uc us : Nat) : Eff := match ls[a]? with
  | some (.inr (.inl x)) => eP (nx, ls, vl x :: st, m, uc, us)
  | _ => eN
def eLdA (ls : List Vv) (a nx : Nat) (st : List Vv) (m : Mem) (uc us : Nat) : Eff := match ls[a]? with
  | some (.inr (.inr (.inl r))) => eP (nx, ls, vr r :: st, m, uc, us)
  | _ => eN
def eStI (ls : List Vv) (a nx : Nat) (st : List Vv) (m : Mem) (uc us : Nat) : Eff := match Nat.blt a ls.length, st with
  | true, .inl x :: r => eP (nx, stL ls a (vi x), r, m, uc, us)
  | _, _ => eN
def eStA (ls : List Vv) (a nx : Nat) (st : List Vv) (m : Mem) (uc us : Nat) : Eff := match Nat.blt a ls.length, st with
  | true, .inr (.inr (.inl x)) :: r => eP (nx, stL ls a (vr x), r, m, uc, us)
  | _, _ => eN
def eStL (ls : List Vv) (a nx : Nat) (st : List Vv) (m : Mem) (uc us : Nat) : Eff := match Nat.blt (a + 1) ls.length, st with
  | true, .inr (.inl x) :: r => eP (nx, (stL ls a (vl x)).set (a + 1) vu, r, m, uc, us)
  | _, _ => eN
def eInc (ls : List Vv) (a nx : Nat) (c : Vv) (st : List Vv) (m : Mem) (uc us : Nat) : Eff := match ls[a]?, c with
  | some (.inl x), .inl y => eP (nx, stL ls a (vi (x + y)), st, m, uc, us)
  | _, _ => eN
def eI2 (f : Int32 → Int32 → Int32) (ls : List Vv) (nx : Nat) (st : List Vv) (m : Mem) (uc us : Nat) : Eff := match st with
  | .inl y :: .inl x :: r => eP (nx, ls, vi (f x y) :: r, m, uc, us)
  | _ => eN
def eI2q (f : Int32 → Int32 → Int32) (ls : List Vv) (nx : Nat) (st : List Vv) (m : Mem) (uc us : Nat) : Eff := match st with
  | .inl y :: .inl x :: r => eQ (¬ y = 0) (nx, ls, vi (f x y) :: r, m, uc, us)
  | _ => eN
def eI1 (f : Int32 → Int32) (ls : List Vv) (nx : Nat) (st : List Vv) (m : Mem) (uc us : Nat) : Eff := match st with
  | .inl x :: r => eP (nx, ls, vi (f x) :: r, m, uc, us)
  | _ => eN
def eL2 (f : Int64 → Int64 → Int64) (ls : List Vv) (nx : Nat) (st : List Vv) (m : Mem) (uc us : Nat) : Eff := match st with
  | .inr (.inl y) :: .inr (.inl x) :: r => eP (nx, ls, vl (f x y) :: r, m, uc, us)
  | _ => eN
def eL2q (f : Int64 → Int64 → Int64) (ls : List Vv) (nx : Nat) (st : List Vv) (m : Mem) (uc us : Nat) : Eff := match st with
  | .inr (.inl y) :: .inr (.inl x) :: r => eQ (¬ y = 0) (nx, ls, vl (f x y) :: r, m, uc, us)
  | _ => eN
def eLc (ls : List Vv) (nx : Nat) (st : List Vv) (m : Mem) (uc us : Nat) : Eff := match st with
  | .inr (.inl y) :: .inr (.inl x) :: r => eP (nx, ls, vi (lg_cmp x y) :: r, m, uc, us)
  | _ => eN
def eIL (ls : List Vv) (nx : Nat) (st : List Vv) (m : Mem) (uc us : Nat) : Eff := match st with
  | .inl x :: r => eP (nx, ls, vl x.toInt64 :: r, m, uc, us)
  | _ => eN
def eLI (ls : List Vv) (nx : Nat) (st : List Vv) (m : Mem) (uc us : Nat) : Eff := match st with
  | .inr (.inl x) :: r => eP (nx, ls, vi x.toInt32 :: r, m, uc, us)
  | _ => eN
def eCm (c : Int32 → Int32 → Prop) (ls : List Vv) (tt ff : Nat) (st : List Vv) (m : Mem) (uc us : Nat) : Eff := match st with
  | .inl y :: .inl x :: r => eB (c x y) (tt, ls, r, m, uc, us) (ff, ls, r, m, uc, us)
  | _ => eN
def eC0 (c : Int32 → Prop) (ls : List Vv) (tt ff : Nat) (st : List Vv) (m : Mem) (uc us : Nat) : Eff := match st with
  | .inl x :: r => eB (c x) (tt, ls, r, m, uc, us) (ff, ls, r, m, uc, us)
  | _ => eN
def eNu (ls : List Vv) (tt ff : Nat) (st : List Vv) (m : Mem) (uc us : Nat) : Eff := match st with
  | .inr (.inr (.inl none)) :: r => eP (tt, ls, r, m, uc, us)
  | .inr (.inr (.inl (some _))) :: r => eP (ff, ls, r, m, uc, us)
  | _ => eN
def eAc (ls : List Vv) (tt ff : Nat) (st : List Vv) (m : Mem) (uc us : Nat) : Eff := match st with
  | .inr (.inr (.inl (some y))) :: .inr (.inr (.inl (some x))) :: r => (match Nat.beq (sh x) 8 && Nat.beq (sh y) 8 with
    | true => eB (x = y) (tt, ls, r, m, uc, us) (ff, ls, r, m, uc, us)
    | false => eN)
  | _ => eN
def rdF (m : Mem) (o : Id3) (k : Nat) (ty : List Nat) : Vv := match ty with
  | 0 :: _ => vi (gI m o k)
  | 1 :: _ => vl (gL m o k)
  | 2 :: _ => vr (gR m o k)
  | _ => vi (kcon k o.2.2)
def eGet (a b nx : Nat) (ty : List Nat) (ls st : List Vv) (m : Mem) (uc us : Nat) : Eff := match st with
  | .inr (.inr (.inl (some o))) :: r => (match Nat.beq (sh o) a with
    | true => eP (nx, ls, rdF m o b ty :: r, m, uc, us)
    | false => eN)
  | _ => eN
def ePut (a b nx : Nat) (ty : List Nat) (ls st : List Vv) (m : Mem) (uc us : Nat) : Eff := match ty, st with
  | 0 :: _, .inl x :: .inr (.inr (.inl (some o))) :: r => (match Nat.beq (sh o) a with
    | true => eP (nx, ls, r, pI m o b x, uc, us)
    | false => eN)
  | 1 :: _, .inr (.inl x) :: .inr (.inr (.inl (some o))) :: r => (match Nat.beq (sh o) a with
    | true => eP (nx, ls, r, pL m o b x, uc, us)
    | false => eN)
  | 2 :: _, .inr (.inr (.inl x)) :: .inr (.inr (.inl (some o))) :: r => (match Nat.beq (sh o) a with
    | true => eP (nx, ls, r, pR m o b x, uc, us)
    | false => eN)
  | _, _ => eN
def eIald (nx : Nat) (ls st : List Vv) (m : Mem) (uc us : Nat) : Eff := match st with
  | .inl j :: .inr (.inr (.inl (some o))) :: r => (match Nat.beq (sh o) 20 || Nat.beq (sh o) 30 with
    | true => eQ (vp_in j (ln o)) (nx, ls, vi (gI m o j.toNatClampNeg) :: r, m, uc, us)
    | false => eN)
  | _ => eN
def eZald (nx : Nat) (ls st : List Vv) (m : Mem) (uc us : Nat) : Eff := match st with
  | .inl j :: .inr (.inr (.inl (some o))) :: r => (match Nat.beq (sh o) 21 with
    | true => eQ (vp_in j (ln o)) (nx, ls, vi (gI m o j.toNatClampNeg) :: r, m, uc, us)
    | false => eN)
  | _ => eN
def eAald (nx : Nat) (ls st : List Vv) (m : Mem) (uc us : Nat) : Eff := match st with
  | .inl j :: .inr (.inr (.inl (some o))) :: r => (match Nat.ble 22 (sh o) && Nat.ble (sh o) 26 with
    | true => eQ (vp_in j (ln o)) (nx, ls, vr (gR m o j.toNatClampNeg) :: r, m, uc, us)
    | false => eN)
  | _ => eN
def eIast (nx : Nat) (ls st : List Vv) (m : Mem) (uc us : Nat) : Eff := match st with
  | .inl x :: .inl j :: .inr (.inr (.inl (some o))) :: r => (match Nat.beq (sh o) 20 with
    | true => eQ (vp_in j (ln o)) (nx, ls, r, pI m o j.toNatClampNeg x, uc, us)
    | false => eN)
  | _ => eN
def eZast (nx : Nat) (ls st : List Vv) (m : Mem) (uc us : Nat) : Eff := match st with
  | .inl x :: .inl j :: .inr (.inr (.inl (some o))) :: r => (match Nat.beq (sh o) 21 with
    | true => eQ (vp_in j (ln o) ∧ (x = 0 ∨ x = 1)) (nx, ls, r, pI m o j.toNatClampNeg x, uc, us)
    | false => eN)
  | _ => eN
/-- the object that an array of a shape takes -/
def elS (a : Nat) : Nat := match a with
  | 22 => 0 | 23 => 5 | 24 => 3 | 25 => 2 | _ => 98
def eAast (nx : Nat) (ls st : List Vv) (m : Mem) (uc us : Nat) : Eff := match st with
  | .inr (.inr (.inl (some x))) :: .inl j :: .inr (.inr (.inl (some o))) :: r => (match Nat.beq (sh x) (elS (sh o)) with
    | true => eQ (vp_in j (ln o)) (nx, ls, r, pR m o j.toNatClampNeg (some x), uc, us)
    | false => eN)
  | _ => eN
def eLen (nx : Nat) (ls st : List Vv) (m : Mem) (uc us : Nat) : Eff := match st with
  | .inr (.inr (.inl (some o))) :: r => (match Nat.ble 20 (sh o) && Nat.ble (sh o) 30 with
    | true => eP (nx, ls, vi (nI (ln o)) :: r, m, uc, us)
    | false => eN)
  | _ => eN
/-- a new object of a tag; a new array of a tag -/
def eNew (cap : Nat × Nat) (s t nx : Nat) (n : Nat) (ls st : List Vv) (m : Mem) (uc us : Nat) : Eff :=
  eQ (uc + 1 ≤ cap.1 ∧ us + n ≤ cap.2) (nx, ls, vo s t (m.2.2.2 s t) :: st, al m s t 1, uc + 1, us + n)
def eArr (cap : Nat × Nat) (s t nx : Nat) (ls st : List Vv) (m : Mem) (uc us : Nat) : Eff := match st with
  | .inl n :: r => eQ (n = nI (ln (s, t, m.2.2.2 s t)) ∧ uc + 1 ≤ cap.1 ∧ us + ln (s, t, m.2.2.2 s t) ≤ cap.2) (nx, ls, vo s t (m.2.2.2 s t) :: r, al m s t 1, uc + 1, us + ln (s, t, m.2.2.2 s t))
  | _ => eN
def eMul (cap : Nat × Nat) (s t nx t2 : Nat) (ls st : List Vv) (m : Mem) (uc us : Nat) : Eff := match st with
  | .inl k :: .inl n :: r => eQ (n = 8 ∧ k = 8 ∧ uc + 9 ≤ cap.1 ∧ us + 72 ≤ cap.2) (nx, ls, vo s t (m.2.2.2 s t) :: r, al (al (rws m (s, t, m.2.2.2 s t) t2 (m.2.2.2 s t2) 8) s t 1) s t2 8, uc + 9, us + 72)
  | _ => eN
def eSw (x : Int32) : Nat → List Nat → List Vv → List Vv → Mem → Nat → Nat → List (Prop × St)
  | _, [], _, _, _, _, _ => []
  | n, t :: r, ls, st, m, uc, us => (x = nI n, t, ls, st, m, uc, us) :: eSw x (n + 1) r ls st m uc us
def eTab (a b : Nat) (ts : List Nat) (ls st : List Vv) (m : Mem) (uc us : Nat) : Eff := match st with
  | .inl x :: r => eS ((x < nI b ∨ nI (b + ts.length) ≤ x, a, ls, r, m, uc, us) :: eSw x b ts ls r m uc us)
  | _ => eN
def eDup (nx : Nat) (ls st : List Vv) (m : Mem) (uc us : Nat) : Eff := match st with
  | v :: r => (match ctg v with
    | 1 => eP (nx, ls, v :: v :: r, m, uc, us)
    | _ => eN)
  | _ => eN
def ePop (nx : Nat) (ls st : List Vv) (m : Mem) (uc us : Nat) : Eff := match st with
  | v :: r => (match ctg v with
    | 1 => eP (nx, ls, r, m, uc, us)
    | _ => eN)
  | _ => eN
def eDup2 (nx : Nat) (ls st : List Vv) (m : Mem) (uc us : Nat) : Eff := match st with
  | v :: w :: r => (match ctg v, ctg w with
    | 1, 1 => eP (nx, ls, v :: w :: v :: w :: r, m, uc, us)
    | _, _ => eN)
  | _ => eN
def eCpy (nx : Nat) (ls st : List Vv) (m : Mem) (uc us : Nat) : Eff := match st with
  | .inl n :: .inl dp :: .inr (.inr (.inl (some d))) :: .inl sp :: .inr (.inr (.inl (some s))) :: r => (match Nat.beq (sh s) 20 && (Nat.beq (sh d) 20 && Nat.ble (ctgs r) 8) with
    | true => eQ (¬ n < 0 ∧ ¬ sp < 0 ∧ ¬ dp < 0 ∧ sp.toNatClampNeg + n.toNatClampNeg ≤ ln s ∧ dp.toNatClampNeg + n.toNatClampNeg ≤ ln d) (nx, ls, r, cpI m s d sp.toNatClampNeg dp.toNatClampNeg n.toNatClampNeg, uc, us)
    | false => eN)
  | _ => eN
def ePrm (a nx : Nat) (ls st : List Vv) (m : Mem) (uc us : Nat) : Eff := match a, st with
  | 1, .inr (.inr (.inl (some _))) :: r => (match Nat.ble (ctgs r) 8 with
    | true => eP (nx, ls, r, m, uc, us)
    | false => eN)
  | 2, st => eCpy nx ls st m uc us
  | 3, .inl y :: .inl x :: r => (match Nat.ble (ctgs r) 8 with
    | true => eP (nx, ls, vi (if x < y then y else x) :: r, m, uc, us)
    | false => eN)
  | 4, .inl y :: .inl x :: r => (match Nat.ble (ctgs r) 8 with
    | true => eP (nx, ls, vi (if y < x then y else x) :: r, m, uc, us)
    | false => eN)
  | 5, .inl x :: r => (match Nat.ble (ctgs r) 8 with
    | true => eP (nx, ls, vi (if 0 ≤ x then x else 0 - x) :: r, m, uc, us)
    | false => eN)
  | _, _ => eN
/-- the receiver is an object of the method's class (98: an object; 99: no receiver) -/
def rcv (c : Nat) (as : List Vv) : Bool := match Nat.beq c 99, as with
  | true, _ => true
  | _, .inr (.inr (.inl (some o))) :: _ => Nat.beq c 98 || Nat.beq (sh o) c
  | _, _ => false
def eCall (a b nx : Nat) (ts : List Nat) (ls st : List Vv) (m : Mem) (uc us : Nat) : Eff := match ts with
  | [] => ePrm a nx ls st m uc us
  | mc :: ms :: c :: _ => (match Nat.ble b st.length && (Nat.ble (ctgs (st.drop b)) 8 && rcv c (st.take b).reverse) with
    | true => eC a (st.take b).reverse mc ms (nx, ls, st.drop b, m, uc, us)
    | false => eN)
  | _ => eN
def eRet (a : Nat) (st : List Vv) (m : Mem) : Eff := match a, st with
  | 0, [.inl x] => eR True (some (vi x)) m
  | 1, [.inl x] => eR (x = 0 ∨ x = 1) (some (vi x)) m
  | _, _ => eN
def eRetL (st : List Vv) (m : Mem) : Eff := match st with
  | [.inr (.inl x)] => eR True (some (vl x)) m
  | _ => eN
def eRetA (st : List Vv) (m : Mem) : Eff := match st with
  | [.inr (.inr (.inl x))] => eR True (some (vr x)) m
  | _ => eN
def eRetV (st : List Vv) (m : Mem) : Eff := match st with
  | [] => eR True none m
  | _ => eN
/-- a method ends within its room -/
def eEnd (cap : Nat × Nat) (uc us : Nat) (e : Eff) : Eff := match Nat.ble uc cap.1 && Nat.ble us cap.2 with
  | true => e
  | false => eN
def eff (cap : Nat × Nat) (ins : Ins) (ls st : List Vv) (m : Mem) (uc us : Nat) : Eff := match ins with
  | (i, a, b, nx, v, ts) => match i with
    | .iconst _ => eP (nx, ls, v :: st, m, uc, us)
    | .bipush _ => eP (nx, ls, v :: st, m, uc, us)
    | .sipush _ => eP (nx, ls, v :: st, m, uc, us)
    | .lconst _ => eP (nx, ls, v :: st, m, uc, us)
    | .ldc _ => eP (nx, ls, v :: st, m, uc, us)
    | .ldc_w _ => eP (nx, ls, v :: st, m, uc, us)
    | .ldc2_w _ => eP (nx, ls, v :: st, m, uc, us)
    | .aconst_null => eP (nx, ls, vr none :: st, m, uc, us)
    | .getstatic _ => eP (nx, ls, vo 0 20 a :: st, m, uc, us)
    | .iload _ => eLdI ls a nx st m uc us
    | .iload_n _ => eLdI ls a nx st m uc us
    | .lload _ => eLdL ls a nx st m uc us
    | .lload_n _ => eLdL ls a nx st m uc us
    | .aload _ => eLdA ls a nx st m uc us
    | .aload_n _ => eLdA ls a nx st m uc us
    | .istore _ => eStI ls a nx st m uc us
    | .istore_n _ => eStI ls a nx st m uc us
    | .lstore _ => eStL ls a nx st m uc us
    | .lstore_n _ => eStL ls a nx st m uc us
    | .astore _ => eStA ls a nx st m uc us
    | .astore_n _ => eStA ls a nx st m uc us
    | .iinc _ _ => eInc ls a nx v st m uc us
    | .iadd => eI2 (fun x y => x + y) ls nx st m uc us
    | .isub => eI2 (fun x y => x - y) ls nx st m uc us
    | .imul => eI2 (fun x y => x * y) ls nx st m uc us
    | .iand => eI2 (fun x y => x &&& y) ls nx st m uc us
    | .ior => eI2 (fun x y => x ||| y) ls nx st m uc us
    | .ixor => eI2 (fun x y => x ^^^ y) ls nx st m uc us
    | .ishl => eI2 (fun x y => x <<< (y &&& 31)) ls nx st m uc us
    | .ishr => eI2 (fun x y => x >>> (y &&& 31)) ls nx st m uc us
    | .iushr => eI2 (fun x y => (x.toUInt32 >>> (y.toUInt32 &&& Int32.toUInt32 31)).toInt32) ls nx st m uc us
    | .idiv => eI2q (fun x y => x / y) ls nx st m uc us
    | .irem => eI2q (fun x y => x - x / y * y) ls nx st m uc us
    | .ineg => eI1 (fun x => -x) ls nx st m uc us
    | .i2b => eI1 (fun x => x.toInt8.toInt32) ls nx st m uc us
    | .ladd => eL2 (fun x y => x + y) ls nx st m uc us
    | .lsub => eL2 (fun x y => x - y) ls nx st m uc us
    | .lmul => eL2 (fun x y => x * y) ls nx st m uc us
    | .ldiv => eL2q (fun x y => x / y) ls nx st m uc us
    | .lrem => eL2q (fun x y => x - x / y * y) ls nx st m uc us
    | .lcmp => eLc ls nx st m uc us
    | .i2l => eIL ls nx st m uc us
    | .l2i => eLI ls nx st m uc us
    | .goto _ => eP (a, ls, st, m, uc, us)
    | .if_icmp c _ => (match c with
      | .eq => eCm (fun x y => x = y) ls a nx st m uc us
      | .ne => eCm (fun x y => x = y) ls nx a st m uc us
      | .lt => eCm (fun x y => x < y) ls a nx st m uc us
      | .ge => eCm (fun x y => y ≤ x) ls a nx st m uc us
      | .gt => eCm (fun x y => y < x) ls a nx st m uc us
      | .le => eCm (fun x y => x ≤ y) ls a nx st m uc us)
    | .ifCond c _ => (match c with
      | .eq => eC0 (fun x => x = 0) ls a nx st m uc us
      | .ne => eC0 (fun x => x = 0) ls nx a st m uc us
      | .lt => eC0 (fun x => x < 0) ls a nx st m uc us
      | .ge => eC0 (fun x => 0 ≤ x) ls a nx st m uc us
      | .gt => eC0 (fun x => 0 < x) ls a nx st m uc us
      | .le => eC0 (fun x => x ≤ 0) ls a nx st m uc us)
    | .ifnull _ => eNu ls a nx st m uc us
    | .ifnonnull _ => eNu ls nx a st m uc us
    | .if_acmp c _ => (match c with
      | .eq => eAc ls a nx st m uc us
      | .ne => eAc ls nx a st m uc us)
    | .getfield _ => eGet a b nx ts ls st m uc us
    | .putfield _ => ePut a b nx ts ls st m uc us
    | .iaload => eIald nx ls st m uc us
    | .baload => eZald nx ls st m uc us
    | .aaload => eAald nx ls st m uc us
    | .iastore => eIast nx ls st m uc us
    | .bastore => eZast nx ls st m uc us
    | .aastore => eAast nx ls st m uc us
    | .arraylength => eLen nx ls st m uc us
    | .new _ => eNew cap a b nx (ts.getD 0 0) ls st m uc us
    | .newarray _ => eArr cap a b nx ls st m uc us
    | .anewarray _ => eArr cap a b nx ls st m uc us
    | .multianewarray _ _ => eMul cap a b nx (ts.getD 0 0) ls st m uc us
    | .tableswitch _ _ _ _ => eTab a b ts ls st m uc us
    | .dup => eDup nx ls st m uc us
    | .pop => ePop nx ls st m uc us
    | .dup2 => eDup2 nx ls st m uc us
    | .invokevirtual _ => eEnd cap uc us (eCall a b nx ts ls st m uc us)
    | .invokespecial _ => eEnd cap uc us (eCall a b nx ts ls st m uc us)
    | .invokestatic _ => eEnd cap uc us (eCall a b nx ts ls st m uc us)
    | .ireturn => eEnd cap uc us (eRet a st m)
    | .lreturn => eEnd cap uc us (eRetL st m)
    | .areturn => eEnd cap uc us (eRetA st m)
    | .return_ => eEnd cap uc us (eRetV st m)
    | _ => eN
abbrev PT := Nat → List Vv → List Vv → Mem → Nat → Nat → Prop
abbrev CT := Nat → List Vv → Mem → (Option Vv → Mem → Prop) → Prop
def foS (P : PT) : List (Prop × St) → Prop
  | [] => True
  | (q, s) :: r => (q → P s.1 s.2.1 s.2.2.1 s.2.2.2.1 s.2.2.2.2.1 s.2.2.2.2.2) ∧ foS P r
def inL (v : Option Vv) (st : List Vv) : List Vv := match v with
  | some w => w :: st
  | none => st
def stepE (C : CT) (cap : Nat × Nat) (P : PT) (K : Option Vv → Mem → Prop) (e : Eff) : Prop := match e with
  | .inl (ix, ls, st, m, uc, us) => P ix ls st m uc us
  | .inr (.inl (q, ix, ls, st, m, uc, us)) => q ∧ P ix ls st m uc us
  | .inr (.inr (.inl (c, (ix, ls, st, m, uc, us), (ix2, ls2, st2, m2, uc2, us2)))) => (c → P ix ls st m uc us) ∧ (¬ c → P ix2 ls2 st2 m2 uc2 us2)
  | .inr (.inr (.inr (.inl l))) => foS P l
  | .inr (.inr (.inr (.inr (.inl (y, a, mc, ms, ix, ls, st, m, uc, us))))) => (match mc with
    | 0 => C y a m (fun v m' => P ix ls (inL v st) m' uc us)
    | _ => (uc + mc ≤ cap.1 ∧ us + ms ≤ cap.2) ∧ C y a m (fun v m' => P ix ls (inL v st) m' (uc + mc) (us + ms)))
  | .inr (.inr (.inr (.inr (.inr (.inl (q, v, m)))))) => q ∧ K v m
  | .inr (.inr (.inr (.inr (.inr (.inr _))))) => False
def stp (C : CT) (cd : List Ins) (cap : Nat × Nat) (P : PT) (K : Option Vv → Mem → Prop) (ix : Nat) (ls st : List Vv) (m : Mem) (uc us : Nat) : Prop := match cd[ix]? with
  | some ins => stepE C cap P K (eff cap ins ls st m uc us)
  | none => False
/-- from here the method comes to its end with K: the least relation that the steps close -/
def Go (C : CT) (cd : List Ins) (cap : Nat × Nat) (K : Option Vv → Mem → Prop) : PT := fun ix ls st m uc us =>
  ∀ P : PT, (∀ ix ls st m uc us, stp C cd cap P K ix ls st m uc us → P ix ls st m uc us) → P ix ls st m uc us
/-- so many steps, up to one of the places hd -/
def run (C : CT) (cd : List Ins) (cap : Nat × Nat) (K : Option Vv → Mem → Prop) (hd : List Nat) : Nat → PT
  | 0 => Go C cd cap K
  | n + 1 => fun ix ls st m uc us => match hd.elem ix with
    | true => Go C cd cap K ix ls st m uc us
    | false => stp C cd cap (run C cd cap K hd n) K ix ls st m uc us
def monoC (C : CT) : Prop := ∀ (y : Nat) (a : List Vv) (m : Mem) (K K' : Option Vv → Mem → Prop), (∀ v m, K v m → K' v m) → C y a m K → C y a m K'
theorem foS_mono {P P' : PT} (h : ∀ ix ls st m uc us, P ix ls st m uc us → P' ix ls st m uc us) : ∀ l : List (Prop × St), foS P l → foS P' l
  | [], _ => trivial
  | (q, s) :: r, hx => ⟨fun hq => h _ _ _ _ _ _ (hx.1 hq), foS_mono h r hx.2⟩
theorem stepE_mono {C C' : CT} {cap : Nat × Nat} {P P' : PT} {K K' : Option Vv → Mem → Prop} (hC : ∀ (y : Nat) (a : List Vv) (m : Mem) (K K' : Option Vv → Mem → Prop), (∀ v m, K v m → K' v m) → C y a m K → C' y a m K') (h : ∀ ix ls st m uc us, P ix ls st m uc us → P' ix ls st m uc us) (hK : ∀ v m, K v m → K' v m) (e : Eff) (hx : stepE C cap P K e) : stepE C' cap P' K' e := by
  rcases e with ⟨ix, ls, st, m, uc, us⟩ | ⟨q, ix, ls, st, m, uc, us⟩ | ⟨c, ⟨ix, ls, st, m, uc, us⟩, ⟨ix2, ls2, st2, m2, uc2, us2⟩⟩ | l | ⟨y, a, mc, ms, ix, ls, st, m, uc, us⟩ | ⟨q, v, m⟩ | u
  · exact h _ _ _ _ _ _ hx
  · exact ⟨hx.1, h _ _ _ _ _ _ hx.2⟩
  · exact ⟨fun g => h _ _ _ _ _ _ (hx.1 g), fun g => h _ _ _ _ _ _ (hx.2 g)⟩
  · exact foS_mono h l hx
  · cases mc with
    | zero => exact hC _ _ _ _ _ (fun v m' g => h _ _ _ _ _ _ g) hx
    | succ k => exact ⟨hx.1, hC _ _ _ _ _ (fun v m' g => h _ _ _ _ _ _ g) hx.2⟩
  · exact ⟨hx.1, hK _ _ hx.2⟩
  · exact hx
theorem stp_mono {C C' : CT} {cd : List Ins} {cap : Nat × Nat} {P P' : PT} {K K' : Option Vv → Mem → Prop} (hC : ∀ (y : Nat) (a : List Vv) (m : Mem) (K K' : Option Vv → Mem → Prop), (∀ v m, K v m → K' v m) → C y a m K → C' y a m K') (h : ∀ ix ls st m uc us, P ix ls st m uc us → P' ix ls st m uc us) (hK : ∀ v m, K v m → K' v m) {ix : Nat} {ls st : List Vv} {m : Mem} {uc us : Nat} (hx : stp C cd cap P K ix ls st m uc us) : stp C' cd cap P' K' ix ls st m uc us := by
  unfold stp at hx ⊢
  cases hc : cd[ix]? with
  | none => rw [hc] at hx; exact hx
  | some ins => rw [hc] at hx; exact stepE_mono hC h hK _ hx
theorem Go.step {C : CT} (hC : monoC C) {cd : List Ins} {cap : Nat × Nat} {K : Option Vv → Mem → Prop} {ix : Nat} {ls st : List Vv} {m : Mem} {uc us : Nat} (h : stp C cd cap (Go C cd cap K) K ix ls st m uc us) : Go C cd cap K ix ls st m uc us := fun P hP =>
  hP _ _ _ _ _ _ (stp_mono hC (fun _ _ _ _ _ _ g => g P hP) (fun _ _ g => g) h)
theorem Go.mono {C C' : CT} (hC : ∀ (y : Nat) (a : List Vv) (m : Mem) (K K' : Option Vv → Mem → Prop), (∀ v m, K v m → K' v m) → C y a m K → C' y a m K') {cd : List Ins} {cap : Nat × Nat} {K K' : Option Vv → Mem → Prop} (hK : ∀ v m, K v m → K' v m) {ix : Nat} {ls st : List Vv} {m : Mem} {uc us : Nat} (h : Go C cd cap K ix ls st m uc us) : Go C' cd cap K' ix ls st m uc us := fun P hP =>
  h P (fun _ _ _ _ _ _ g => hP _ _ _ _ _ _ (stp_mono hC (fun _ _ _ _ _ _ g => g) hK g))
theorem run_go {C : CT} (hC : monoC C) {cd : List Ins} {cap : Nat × Nat} {K : Option Vv → Mem → Prop} {hd : List Nat} : ∀ (n ix : Nat) (ls st : List Vv) (m : Mem) (uc us : Nat), run C cd cap K hd n ix ls st m uc us → Go C cd cap K ix ls st m uc us
  | 0, _, _, _, _, _, _, h => h
  | n + 1, ix, ls, st, m, uc, us, h => by
    unfold run at h
    cases he : hd.elem ix with
    | true => rw [he] at h; exact h
    | false => rw [he] at h; exact Go.step hC (stp_mono hC (run_go hC n) (fun _ _ g => g) h)
/-- n steps up to a place of hd; the first step in any case -/
theorem Go.run {C : CT} (hC : monoC C) {cd : List Ins} {cap : Nat × Nat} {K : Option Vv → Mem → Prop} (hd : List Nat) (n : Nat) {ix : Nat} {ls st : List Vv} {m : Mem} {uc us : Nat} (h : stp C cd cap (run C cd cap K hd n) K ix ls st m uc us) : Go C cd cap K ix ls st m uc us :=
  Go.step hC (stp_mono hC (run_go hC n) (fun _ _ g => g) h)
def slL : List Vv → List Vv
  | [] => []
  | v :: r => match ctg v with
    | 2 => v :: vu :: slL r
    | _ => v :: slL r
/-- the locals at a method's entry -/
def mkL (n : Nat) (as : List Vv) : List Vv := slL as ++ List.replicate (n - (slL as).length) vu
/-- a method: name, code, locals, what it returns, its class (a number), the class of its receiver; its instructions, their places in the code, its room (frames, words), what it may make (cells, slots) -/
abbrev MRow := MethodName × ByteArray × Nat × Option FieldType × Nat × List Ins × List Nat × (Nat × Nat) × (Nat × Nat)
def callT (MT : List MRow) : Nat → CT
  | 0, _, _, _, _ => False
  | d + 1, y, as, m, K => match MT[y]? with
    | some (_, _, n, _, _, cd, _, _, cap) => Nat.ble (slL as).length n = true ∧ Go (callT MT d) cd cap K 0 (mkL n as) [] m 0 0
    | none => False
theorem callT_mono (MT : List MRow) : ∀ d : Nat, monoC (callT MT d)
  | 0, _, _, _, _, _, _, h => h
  | d + 1, y, as, m, K, K', hK, h => by
    unfold callT at h ⊢
    cases hy : MT[y]? with
    | none => rw [hy] at h; exact h
    | some r => rw [hy] at h; exact ⟨h.1, Go.mono (callT_mono MT d) hK h.2⟩
theorem callT_up (MT : List MRow) : ∀ (d : Nat) (y : Nat) (a : List Vv) (m : Mem) (K K' : Option Vv → Mem → Prop), (∀ v m, K v m → K' v m) → callT MT d y a m K → callT MT (d + 1) y a m K'
  | 0, _, _, _, _, _, _, h => absurd h (fun g => g)
  | d + 1, y, as, m, K, K', hK, h => by
    unfold callT at h ⊢
    cases hy : MT[y]? with
    | none => rw [hy] at h; exact h
    | some r => rw [hy] at h; exact ⟨h.1, Go.mono (callT_up MT d) hK h.2⟩
