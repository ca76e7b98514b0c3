/-! Written by a program (wip/whole/p89.py): what kind of answer a call gives. -/
def rvE (Q : Option Vv → Prop) (E : Eff) : Prop := match E with
  | .inr (.inr (.inr (.inr (.inr (.inl (_, v, _)))))) => Q v
  | _ => True
section RV
variable {Q : Option Vv → Prop} {m : Mem} {ls st : List Vv} {nx a b n uc us tt ff : Nat} {cap : Nat × Nat} {ts : List Nat} {v : Vv} {f2 : Int32 → Int32 → Int32} {f1 : Int32 → Int32} {g2 : Int64 → Int64 → Int64} {cm : Int32 → Int32 → Prop} {c0 : Int32 → Prop}

theorem rv_LdI : rvE Q (eLdI ls a nx st m uc us) := by unfold eLdI; repeat' (first | trivial | split)

theorem rv_LdL : rvE Q (eLdL ls a nx st m uc us) := by unfold eLdL; repeat' (first | trivial | split)

theorem rv_LdA : rvE Q (eLdA ls a nx st m uc us) := by unfold eLdA; repeat' (first | trivial | split)

theorem rv_StI : rvE Q (eStI ls a nx st m uc us) := by unfold eStI; repeat' (first | trivial | split)

theorem rv_StA : rvE Q (eStA ls a nx st m uc us) := by unfold eStA; repeat' (first | trivial | split)

theorem rv_StL : rvE Q (eStL ls a nx st m uc us) := by unfold eStL; repeat' (first | trivial | split)

theorem rv_Inc : rvE Q (eInc ls a nx v st m uc us) := by unfold eInc; repeat' (first | trivial | split)

theorem rv_I2 : rvE Q (eI2 f2 ls nx st m uc us) := by unfold eI2; repeat' (first | trivial | split)

theorem rv_I2q : rvE Q (eI2q f2 ls nx st m uc us) := by unfold eI2q; repeat' (first | trivial | split)

theorem rv_I1 : rvE Q (eI1 f1 ls nx st m uc us) := by unfold eI1; repeat' (first | trivial | split)

theorem rv_L2 : rvE Q (eL2 g2 ls nx st m uc us) := by unfold eL2; repeat' (first | trivial | split)

theorem rv_L2q : rvE Q (eL2q g2 ls nx st m uc us) := by unfold eL2q; repeat' (first | trivial | split)

theorem rv_Lc : rvE Q (eLc ls nx st m uc us) := by unfold eLc; repeat' (first | trivial | split)

theorem rv_IL : rvE Q (eIL ls nx st m uc us) := by unfold eIL; repeat' (first | trivial | split)

theorem rv_LI : rvE Q (eLI ls nx st m uc us) := by unfold eLI; repeat' (first | trivial | split)

theorem rv_Cm : rvE Q (eCm cm ls tt ff st m uc us) := by unfold eCm; repeat' (first | trivial | split)

theorem rv_C0 : rvE Q (eC0 c0 ls tt ff st m uc us) := by unfold eC0; repeat' (first | trivial | split)

theorem rv_Nu : rvE Q (eNu ls tt ff st m uc us) := by unfold eNu; repeat' (first | trivial | split)

theorem rv_Ac : rvE Q (eAc ls tt ff st m uc us) := by unfold eAc; repeat' (first | trivial | split)

theorem rv_Get : rvE Q (eGet a b nx ts ls st m uc us) := by unfold eGet; repeat' (first | trivial | split)

theorem rv_Put : rvE Q (ePut a b nx ts ls st m uc us) := by unfold ePut; repeat' (first | trivial | split)

theorem rv_Iald : rvE Q (eIald nx ls st m uc us) := by unfold eIald; repeat' (first | trivial | split)

theorem rv_Zald : rvE Q (eZald nx ls st m uc us) := by unfold eZald; repeat' (first | trivial | split)

theorem rv_Aald : rvE Q (eAald nx ls st m uc us) := by unfold eAald; repeat' (first | trivial | split)

theorem rv_Iast : rvE Q (eIast nx ls st m uc us) := by unfold eIast; repeat' (first | trivial | split)

theorem rv_Zast : rvE Q (eZast nx ls st m uc us) := by unfold eZast; repeat' (first | trivial | split)

theorem rv_Aast : rvE Q (eAast nx ls st m uc us) := by unfold eAast; repeat' (first | trivial | split)

theorem rv_Len : rvE Q (eLen nx ls st m uc us) := by unfold eLen; repeat' (first | trivial | split)

theorem rv_New : rvE Q (eNew cap a b nx n ls st m uc us) := by unfold eNew; repeat' (first | trivial | split)

theorem rv_Arr : rvE Q (eArr cap a b nx ls st m uc us) := by unfold eArr; repeat' (first | trivial | split)

theorem rv_Mul : rvE Q (eMul cap a b nx n ls st m uc us) := by unfold eMul; repeat' (first | trivial | split)

theorem rv_Tab : rvE Q (eTab a b ts ls st m uc us) := by unfold eTab; repeat' (first | trivial | split)

theorem rv_Dup : rvE Q (eDup nx ls st m uc us) := by unfold eDup; repeat' (first | trivial | split)

theorem rv_Pop : rvE Q (ePop nx ls st m uc us) := by unfold ePop; repeat' (first | trivial | split)

theorem rv_Dup2 : rvE Q (eDup2 nx ls st m uc us) := by unfold eDup2; repeat' (first | trivial | split)

theorem rv_Cpy : rvE Q (eCpy nx ls st m uc us) := by unfold eCpy; repeat' (first | trivial | split)

theorem rv_Prm : rvE Q (ePrm a nx ls st m uc us) := by
  unfold ePrm
  split
  · split <;> trivial
  · exact rv_Cpy
  · split <;> trivial
  · split <;> trivial
  · split <;> trivial
  · trivial
theorem rv_Call : rvE Q (eCall a b nx ts ls st m uc us) := by
  unfold eCall
  split
  · exact rv_Prm
  · split <;> trivial
  · trivial
theorem rv_End {E : Eff} (h : rvE Q E) : rvE Q (eEnd cap uc us E) := by
  unfold eEnd
  split
  · exact h
  · trivial
theorem rv_Ret (h : ∀ x, Q (some (vi x))) : rvE Q (eRet a st m) := by
  unfold eRet
  split
  · exact h _
  · exact h _
  · trivial
theorem rv_RetL (h : ∀ x, Q (some (vl x))) : rvE Q (eRetL st m) := by
  unfold eRetL
  split
  · exact h _
  · trivial
end RV
def retI (i : Ins) : Bool := match i.1 with
  | .lreturn => false
  | .areturn => false
  | .return_ => false
  | _ => true
def retL (i : Ins) : Bool := match i.1 with
  | .ireturn => false
  | .areturn => false
  | .return_ => false
  | _ => true

theorem rv_effI {cap : Nat × Nat} {ins : Ins} {m : Mem} {ls st : List Vv} {uc us : Nat} (h : retI ins = true) : rvE (fun w => ∃ x, w = some (vi x)) (eff cap ins ls st m uc us) := by
  obtain ⟨i, a, b, nx, v, ts⟩ := ins
  cases i
  all_goals first
      | exact absurd h (by decide)
      | exact rv_End (rv_Ret (fun x => ⟨x, rfl⟩))
      | trivial
      | exact rv_LdI
      | exact rv_LdL
      | exact rv_LdA
      | exact rv_StI
      | exact rv_StA
      | exact rv_StL
      | exact rv_Inc
      | exact rv_I2
      | exact rv_I2q
      | exact rv_I1
      | exact rv_L2
      | exact rv_L2q
      | exact rv_Lc
      | exact rv_IL
      | exact rv_LI
      | exact rv_Get
      | exact rv_Put
      | exact rv_Iald
      | exact rv_Zald
      | exact rv_Aald
      | exact rv_Iast
      | exact rv_Zast
      | exact rv_Aast
      | exact rv_Len
      | exact rv_New
      | exact rv_Arr
      | exact rv_Mul
      | exact rv_Tab
      | exact rv_Dup
      | exact rv_Pop
      | exact rv_Dup2
      | exact rv_End rv_Call
      | exact rv_Nu
      | (unfold eff; dsimp only; split <;> first | exact rv_Cm | exact rv_C0 | exact rv_Ac)

theorem rv_effL {cap : Nat × Nat} {ins : Ins} {m : Mem} {ls st : List Vv} {uc us : Nat} (h : retL ins = true) : rvE (fun w => ∃ x, w = some (vl x)) (eff cap ins ls st m uc us) := by
  obtain ⟨i, a, b, nx, v, ts⟩ := ins
  cases i
  all_goals first
      | exact absurd h (by decide)
      | exact rv_End (rv_RetL (fun x => ⟨x, rfl⟩))
      | trivial
      | exact rv_LdI
      | exact rv_LdL
      | exact rv_LdA
      | exact rv_StI
      | exact rv_StA
      | exact rv_StL
      | exact rv_Inc
      | exact rv_I2
      | exact rv_I2q
      | exact rv_I1
      | exact rv_L2
      | exact rv_L2q
      | exact rv_Lc
      | exact rv_IL
      | exact rv_LI
      | exact rv_Get
      | exact rv_Put
      | exact rv_Iald
      | exact rv_Zald
      | exact rv_Aald
      | exact rv_Iast
      | exact rv_Zast
      | exact rv_Aast
      | exact rv_Len
      | exact rv_New
      | exact rv_Arr
      | exact rv_Mul
      | exact rv_Tab
      | exact rv_Dup
      | exact rv_Pop
      | exact rv_Dup2
      | exact rv_End rv_Call
      | exact rv_Nu
      | (unfold eff; dsimp only; split <;> first | exact rv_Cm | exact rv_C0 | exact rv_Ac)

theorem Go.rv {C : CT} (hC : monoC C) {Q : Option Vv → Prop} {cd : List Ins} {cap : Nat × Nat} (hq : ∀ ins ∈ cd, ∀ ls st m uc us, rvE Q (eff cap ins ls st m uc us)) {K : Option Vv → Mem → Prop} {ix : Nat} {ls st : List Vv} {m : Mem} {uc us : Nat} (h : Go C cd cap K ix ls st m uc us) : Go C cd cap (fun v m' => K v m' ∧ Q v) ix ls st m uc us := by
  refine h (fun ix ls st m uc us => Go C cd cap (fun v m' => K v m' ∧ Q v) ix ls st m uc us) (fun ix ls st m uc us hx => ?_)
  refine Go.step hC ?_
  unfold stp at hx ⊢
  cases hc : cd[ix]? with
  | none => rw [hc] at hx; exact hx
  | some ins =>
    rw [hc] at hx
    dsimp only at hx ⊢
    have hs := hq ins (List.mem_of_getElem? hc) ls st m uc us
    revert hx hs
    generalize eff cap ins ls st m uc us = e
    intro hx hs
    rcases e with ⟨ix, ls, st, m, uc, us⟩ | ⟨q, ix, ls, st, m, uc, us⟩ | ⟨c, ⟨ix, ls, st, m, uc, us⟩, ⟨ix2, ls2, st2, m2, uc2, us2⟩⟩ | l | ⟨y, a, mc, ms, ix, ls, st, m, uc, us⟩ | ⟨q, v, m⟩ | u
    · exact hx
    · exact hx
    · exact hx
    · exact hx
    · exact hx
    · exact ⟨hx.1, hx.2, hs⟩
    · exact hx
theorem cW_int {d y : Nat} {as : List Vv} {m : Mem} {K : Option Vv → Mem → Prop} {r : MRow} (hy : MT[y]? = some r) (hr : r.2.2.2.2.2.1.all retI = true) (h : cW (d + 1) y as m K) : cW (d + 1) y as m (fun v m' => (K v m' ∧ m'.2.2.1 = m.2.2.1) ∧ ∃ x, v = some (vi x)) := by
  have h2 := kp_callT (d + 1) y as m K h
  unfold cW callT at h2 ⊢
  rw [hy] at h2 ⊢
  obtain ⟨r1, r2, r3, r4, r5, r6, r7, r8, r9⟩ := r
  exact ⟨h2.1, Go.rv (callT_mono MT d) (fun ins hi ls st m uc us => rv_effI (List.all_eq_true.mp hr ins hi)) h2.2⟩
theorem cW_long {d y : Nat} {as : List Vv} {m : Mem} {K : Option Vv → Mem → Prop} {r : MRow} (hy : MT[y]? = some r) (hr : r.2.2.2.2.2.1.all retL = true) (h : cW (d + 1) y as m K) : cW (d + 1) y as m (fun v m' => (K v m' ∧ m'.2.2.1 = m.2.2.1) ∧ ∃ x, v = some (vl x)) := by
  have h2 := kp_callT (d + 1) y as m K h
  unfold cW callT at h2 ⊢
  rw [hy] at h2 ⊢
  obtain ⟨r1, r2, r3, r4, r5, r6, r7, r8, r9⟩ := r
  exact ⟨h2.1, Go.rv (callT_mono MT d) (fun ins hi ls st m uc us => rv_effL (List.all_eq_true.mp hr ins hi)) h2.2⟩
theorem vpk {L i c : Nat} {x : Int32} (hL : L ≤ 3072) (hi : i + 6 ≤ L) (hc : c < 6) (hx : x = nI c) : vp_in (nI i + x) L := by
  subst hx
  rw [nI_add]
  exact vp_nI (by omega) (by omega)
theorem scr_eq {m m1 : Mem} (hs : m1.2.2.1 = m.2.2.1) (L k : Nat) : gI m1 (2, 0, L) k = gI m (2, 0, L) k := congrArg (fun S => S.1 0 L k) hs
