/-! Written by a program (wip/whole/p85.py): no call writes the script. -/
def smE (w : Side) (E : Eff) : Prop := match E with
  | .inl s => s.2.2.2.1.2.2.1 = w
  | .inr (.inl (_, s)) => s.2.2.2.1.2.2.1 = w
  | .inr (.inr (.inl (_, s, t))) => s.2.2.2.1.2.2.1 = w ∧ t.2.2.2.1.2.2.1 = w
  | .inr (.inr (.inr (.inl l))) => ∀ e ∈ l, e.2.2.2.2.1.2.2.1 = w
  | .inr (.inr (.inr (.inr (.inl (_, _, _, _, s))))) => s.2.2.2.1.2.2.1 = w
  | .inr (.inr (.inr (.inr (.inr (.inl (_, _, m)))))) => m.2.2.1 = w
  | .inr (.inr (.inr (.inr (.inr (.inr _))))) => True
def okI (i : Ins) : Bool := match i.1 with
  | .putfield _ => Nat.ble i.2.1 8
  | .multianewarray _ _ => Nat.ble i.2.1 1
  | _ => true
theorem sh_two {o : Id3} (h : sh o ≠ 30) : o.1 = 0 ∨ o.1 = 1 := by
  obtain ⟨a, t, i⟩ := o
  match a with
  | 0 => exact Or.inl rfl
  | 1 => exact Or.inr rfl
  | _ + 2 => exact absurd rfl h
theorem sS_two (m : Mem) (s : Nat) (A : Side) (h : s = 0 ∨ s = 1) : (sS m s A).2.2.1 = m.2.2.1 := by
  rcases h with rfl | rfl <;> rfl
theorem sh_98 (o : Id3) : sh o ≠ 98 := by
  obtain ⟨a, t, i⟩ := o
  match a with
  | 0 =>
    show sh0 t ≠ 98
    unfold sh0
    split <;> decide
  | 1 =>
    show sh1 t ≠ 98
    unfold sh1
    split <;> decide
  | _ + 2 => exact (by decide : (30 : Nat) ≠ 98)
theorem bq {a b : Nat} (h : Nat.beq a b = true) : a = b := Nat.eq_of_beq_eq_true h
section SME
variable {m : Mem} {ls st : List Vv} {nx a b uc us tt ff : Nat} {cap : Nat × Nat} {ts : List Nat} {v : Vv}
theorem sm_LdI : smE m.2.2.1 (eLdI ls a nx st m uc us) := by unfold eLdI; split <;> first | rfl | trivial
theorem sm_LdL : smE m.2.2.1 (eLdL ls a nx st m uc us) := by unfold eLdL; split <;> first | rfl | trivial
theorem sm_LdA : smE m.2.2.1 (eLdA ls a nx st m uc us) := by unfold eLdA; split <;> first | rfl | trivial
theorem sm_StI : smE m.2.2.1 (eStI ls a nx st m uc us) := by unfold eStI; split <;> first | rfl | trivial
theorem sm_StA : smE m.2.2.1 (eStA ls a nx st m uc us) := by unfold eStA; split <;> first | rfl | trivial
theorem sm_StL : smE m.2.2.1 (eStL ls a nx st m uc us) := by unfold eStL; split <;> first | rfl | trivial
theorem sm_Inc : smE m.2.2.1 (eInc ls a nx v st m uc us) := by unfold eInc; split <;> first | rfl | trivial
theorem sm_I2 {f : Int32 → Int32 → Int32} : smE m.2.2.1 (eI2 f ls nx st m uc us) := by unfold eI2; split <;> first | rfl | trivial
theorem sm_I2q {f : Int32 → Int32 → Int32} : smE m.2.2.1 (eI2q f ls nx st m uc us) := by unfold eI2q; split <;> first | rfl | trivial
theorem sm_I1 {f : Int32 → Int32} : smE m.2.2.1 (eI1 f ls nx st m uc us) := by unfold eI1; split <;> first | rfl | trivial
theorem sm_L2 {f : Int64 → Int64 → Int64} : smE m.2.2.1 (eL2 f ls nx st m uc us) := by unfold eL2; split <;> first | rfl | trivial
theorem sm_L2q {f : Int64 → Int64 → Int64} : smE m.2.2.1 (eL2q f ls nx st m uc us) := by unfold eL2q; split <;> first | rfl | trivial
theorem sm_Lc : smE m.2.2.1 (eLc ls nx st m uc us) := by unfold eLc; split <;> first | rfl | trivial
theorem sm_IL : smE m.2.2.1 (eIL ls nx st m uc us) := by unfold eIL; split <;> first | rfl | trivial
theorem sm_LI : smE m.2.2.1 (eLI ls nx st m uc us) := by unfold eLI; split <;> first | rfl | trivial
theorem sm_Cm {c : Int32 → Int32 → Prop} : smE m.2.2.1 (eCm c ls tt ff st m uc us) := by unfold eCm; split <;> first | exact ⟨rfl, rfl⟩ | trivial
theorem sm_C0 {c : Int32 → Prop} : smE m.2.2.1 (eC0 c ls tt ff st m uc us) := by unfold eC0; split <;> first | exact ⟨rfl, rfl⟩ | trivial
theorem sm_Nu : smE m.2.2.1 (eNu ls tt ff st m uc us) := by unfold eNu; split <;> first | rfl | trivial
theorem sm_Ac : smE m.2.2.1 (eAc ls tt ff st m uc us) := by
  unfold eAc; split
  · split <;> first | exact ⟨rfl, rfl⟩ | trivial
  · trivial
theorem sm_Get : smE m.2.2.1 (eGet a b nx ts ls st m uc us) := by
  unfold eGet; split
  · split <;> first | rfl | trivial
  · trivial
theorem sm_Put (h : a ≤ 8) : smE m.2.2.1 (ePut a b nx ts ls st m uc us) := by
  unfold ePut; split
  · split
    · rename_i q; exact sS_two _ _ _ (sh_two (by rw [bq q]; omega))
    · trivial
  · split
    · rename_i q; exact sS_two _ _ _ (sh_two (by rw [bq q]; omega))
    · trivial
  · split
    · rename_i q; exact sS_two _ _ _ (sh_two (by rw [bq q]; omega))
    · trivial
  · trivial
theorem sm_Iald : smE m.2.2.1 (eIald nx ls st m uc us) := by
  unfold eIald; split
  · split <;> first | rfl | trivial
  · trivial
theorem sm_Zald : smE m.2.2.1 (eZald nx ls st m uc us) := by
  unfold eZald; split
  · split <;> first | rfl | trivial
  · trivial
theorem sm_Aald : smE m.2.2.1 (eAald nx ls st m uc us) := by
  unfold eAald; split
  · split <;> first | rfl | trivial
  · trivial
theorem sm_Iast : smE m.2.2.1 (eIast nx ls st m uc us) := by
  unfold eIast; split
  · split
    · rename_i q; exact sS_two _ _ _ (sh_two (by rw [bq q]; omega))
    · trivial
  · trivial
theorem sm_Zast : smE m.2.2.1 (eZast nx ls st m uc us) := by
  unfold eZast; split
  · split
    · rename_i q; exact sS_two _ _ _ (sh_two (by rw [bq q]; omega))
    · trivial
  · trivial
theorem sm_Aast : smE m.2.2.1 (eAast nx ls st m uc us) := by
  unfold eAast; split
  · split
    · rename_i q
      refine sS_two _ _ _ (sh_two fun z => ?_)
      have y := bq q
      rw [z] at y
      exact sh_98 _ y
    · trivial
  · trivial
theorem sm_Len : smE m.2.2.1 (eLen nx ls st m uc us) := by
  unfold eLen; split
  · split <;> first | rfl | trivial
  · trivial
theorem sm_New {s t n : Nat} : smE m.2.2.1 (eNew cap s t nx n ls st m uc us) := rfl
theorem sm_Arr {s t : Nat} : smE m.2.2.1 (eArr cap s t nx ls st m uc us) := by unfold eArr; split <;> first | rfl | trivial
theorem sm_Mul {s t t2 : Nat} (h : s ≤ 1) : smE m.2.2.1 (eMul cap s t nx t2 ls st m uc us) := by
  unfold eMul; split
  · exact sS_two _ _ _ (by omega)
  · trivial
theorem sm_Sw {x : Int32} : ∀ (ts : List Nat) (n : Nat), ∀ e ∈ eSw x n ts ls st m uc us, e.2.2.2.2.1.2.2.1 = m.2.2.1
  | [], _, e, he => by simp [eSw] at he
  | t :: r, n, e, he => by
    unfold eSw at he
    rcases List.mem_cons.mp he with rfl | he
    · rfl
    · exact sm_Sw r _ e he
theorem sm_Tab : smE m.2.2.1 (eTab a b ts ls st m uc us) := by
  unfold eTab; split
  · intro e he
    rcases List.mem_cons.mp he with rfl | he
    · rfl
    · exact sm_Sw _ _ e he
  · trivial
theorem sm_Dup : smE m.2.2.1 (eDup nx ls st m uc us) := by
  unfold eDup; split
  · split <;> first | rfl | trivial
  · trivial
theorem sm_Pop : smE m.2.2.1 (ePop nx ls st m uc us) := by
  unfold ePop; split
  · split <;> first | rfl | trivial
  · trivial
theorem sm_Dup2 : smE m.2.2.1 (eDup2 nx ls st m uc us) := by
  unfold eDup2; split
  · split <;> first | rfl | trivial
  · trivial
theorem sm_Cpy : smE m.2.2.1 (eCpy nx ls st m uc us) := by
  unfold eCpy; split
  · split
    · rename_i q
      have y := (Bool.and_eq_true_iff.mp (Bool.and_eq_true_iff.mp q).2).1
      exact sS_two _ _ _ (sh_two (by rw [bq y]; omega))
    · trivial
  · trivial
theorem sm_Prm : smE m.2.2.1 (ePrm a nx ls st m uc us) := by
  unfold ePrm; split
  · split <;> first | rfl | trivial
  · exact sm_Cpy
  · split <;> first | rfl | trivial
  · split <;> first | rfl | trivial
  · split <;> first | rfl | trivial
  · trivial
theorem sm_Call : smE m.2.2.1 (eCall a b nx ts ls st m uc us) := by
  unfold eCall; split
  · exact sm_Prm
  · split <;> first | rfl | trivial
  · trivial
theorem sm_End {E : Eff} (h : smE m.2.2.1 E) : smE m.2.2.1 (eEnd cap uc us E) := by
  unfold eEnd; split
  · exact h
  · trivial
theorem sm_Ret : smE m.2.2.1 (eRet a st m) := by unfold eRet; split <;> first | rfl | trivial
theorem sm_RetL : smE m.2.2.1 (eRetL st m) := by unfold eRetL; split <;> first | rfl | trivial
theorem sm_RetA : smE m.2.2.1 (eRetA st m) := by unfold eRetA; split <;> first | rfl | trivial
theorem sm_RetV : smE m.2.2.1 (eRetV st m) := by unfold eRetV; split <;> first | rfl | trivial
end SME
theorem sm_eff {cap : Nat × Nat} {ins : Ins} {m : Mem} {ls st : List Vv} {uc us : Nat} (h : okI ins = true) : smE m.2.2.1 (eff cap ins ls st m uc us) := by
  obtain ⟨i, a, b, nx, v, ts⟩ := ins
  cases i
  case putfield => exact sm_Put (Nat.le_of_ble_eq_true h)
  case multianewarray => exact sm_Mul (Nat.le_of_ble_eq_true h)
  all_goals first
      | rfl
      | trivial
      | exact sm_LdI
      | exact sm_LdL
      | exact sm_LdA
      | exact sm_StI
      | exact sm_StA
      | exact sm_StL
      | exact sm_Inc
      | exact sm_I2
      | exact sm_I2q
      | exact sm_I1
      | exact sm_L2
      | exact sm_L2q
      | exact sm_Lc
      | exact sm_IL
      | exact sm_LI
      | exact sm_Get
      | exact sm_Iald
      | exact sm_Zald
      | exact sm_Aald
      | exact sm_Iast
      | exact sm_Zast
      | exact sm_Aast
      | exact sm_Len
      | exact sm_New
      | exact sm_Arr
      | exact sm_Tab
      | exact sm_Dup
      | exact sm_Pop
      | exact sm_Dup2
      | exact sm_End sm_Call
      | exact sm_End sm_Ret
      | exact sm_End sm_RetL
      | exact sm_End sm_RetA
      | exact sm_End sm_RetV
      | exact sm_Nu
      | (unfold eff; dsimp only; split <;> first | exact sm_Cm | exact sm_C0 | exact sm_Ac)
def kpC (C : CT) : Prop := ∀ (y : Nat) (a : List Vv) (m : Mem) (K : Option Vv → Mem → Prop), C y a m K → C y a m (fun v m' => K v m' ∧ m'.2.2.1 = m.2.2.1)
theorem foS_sm {P P' : PT} {w : Side} (h : ∀ ix ls st m uc us, m.2.2.1 = w → P ix ls st m uc us → P' ix ls st m uc us) : ∀ l : List (Prop × St), (∀ e ∈ l, e.2.2.2.2.1.2.2.1 = w) → foS P l → foS P' l
  | [], _, _ => trivial
  | (q, s) :: r, hw, hx => ⟨fun hq => h _ _ _ _ _ _ (hw _ List.mem_cons_self) (hx.1 hq), foS_sm h r (fun e he => hw e (List.mem_cons_of_mem _ he)) hx.2⟩
theorem Go.keep {C : CT} (hC : monoC C) (hk : kpC C) {cd : List Ins} (hcd : cd.all okI = true) {cap : Nat × Nat} {K : Option Vv → Mem → Prop} {w : Side} {ix : Nat} {ls st : List Vv} {m : Mem} {uc us : Nat} (hw : m.2.2.1 = w) (h : Go C cd cap K ix ls st m uc us) : Go C cd cap (fun v m' => K v m' ∧ m'.2.2.1 = w) ix ls st m uc us := by
  refine h (fun ix ls st m uc us => m.2.2.1 = w → Go C cd cap (fun v m' => K v m' ∧ m'.2.2.1 = w) ix ls st m uc us) (fun ix ls st m uc us hx hw => ?_) hw
  refine Go.step hC ?_
  unfold stp at hx ⊢
  cases hc : cd[ix]? with
  | none => rw [hc] at hx; exact hx
  | some ins =>
    rw [hc] at hx
    dsimp only at hx ⊢
    have hs : smE m.2.2.1 (eff cap ins ls st m uc us) := sm_eff (List.all_eq_true.mp hcd _ (List.mem_of_getElem? hc))
    rw [hw] at hs
    revert hx hs
    generalize eff cap ins ls st m uc us = e
    intro hx hs
    rcases e with ⟨ix, ls, st, m, uc, us⟩ | ⟨q, ix, ls, st, m, uc, us⟩ | ⟨c, ⟨ix, ls, st, m, uc, us⟩, ⟨ix2, ls2, st2, m2, uc2, us2⟩⟩ | l | ⟨y, a, mc, ms, ix, ls, st, m, uc, us⟩ | ⟨q, v, m⟩ | u
    · exact hx hs
    · exact ⟨hx.1, hx.2 hs⟩
    · exact ⟨fun g => hx.1 g hs.1, fun g => hx.2 g hs.2⟩
    · exact foS_sm (fun _ _ _ _ _ _ z g => g z) l hs hx
    · cases mc with
      | zero => exact hC _ _ _ _ _ (fun v m' g => g.1 (g.2.trans hs)) (hk _ _ _ _ hx)
      | succ k => exact ⟨hx.1, hC _ _ _ _ _ (fun v m' g => g.1 (g.2.trans hs)) (hk _ _ _ _ hx.2)⟩
    · exact ⟨hx.1, hx.2, hs⟩
    · exact hx
theorem okMT : MT.all (fun r => r.2.2.2.2.2.1.all okI) = true := by decide +kernel
theorem kp_callT : ∀ d : Nat, kpC (callT MT d)
  | 0, _, _, _, _, h => h
  | d + 1, y, as, m, K, h => by
    unfold callT at h ⊢
    cases hy : MT[y]? with
    | none => rw [hy] at h; exact h
    | some r =>
      rw [hy] at h
      obtain ⟨r1, r2, r3, r4, r5, r6, r7, r8, r9⟩ := r
      exact ⟨h.1, Go.keep (callT_mono MT d) (kp_callT d) (List.all_eq_true.mp okMT _ (List.mem_of_getElem? hy)) rfl h.2⟩
