/-! RUNS, in which the references read are named. -/
theorem addQ_ok {C : CT} {cap : Nat × Nat} {P : PT} {K : Option Vv → Mem → Prop} {E : Eff} (h : stepR C cap P K (addQ E)) : stepE C cap (PO P) K E := by
  rcases E with ⟨ix, ls, st, m, uc, us⟩ | ⟨q, ix, ls, st, m, uc, us⟩ | ⟨c, ⟨ix, ls, st, m, uc, us⟩, ⟨ix2, ls2, st2, m2, uc2, us2⟩⟩ | l | ⟨y, a, mc, ms, ix, ls, st, m, uc, us⟩ | ⟨q, v, m⟩ | u
  · exact h
  · exact ⟨h.1.1, h.1.2, h.2⟩
  all_goals exact absurd h id
theorem get_ok {C : CT} {cap : Nat × Nat} {P : PT} {K : Option Vv → Mem → Prop} {m : Mem} {ls st : List Vv} {nx a b uc us : Nat} {ts : List Nat} (hR : OKR m) (h : stepR C cap P K (eGetR a b nx ts ls st m uc us)) : stepE C cap (PO P) K (eGet a b nx ts ls st m uc us) := by
  unfold eGetR at h
  split at h
  · rename_i tr o r
    unfold eGet
    dsimp only
    split at h
    · rename_i hb
      rw [hb]
      show OKR m ∧ P nx ls (vr (gR m o b) :: r) m uc us
      rw [hR.1 _ _ h.1]
      exact ⟨hR, h.2⟩
    · exact absurd h id
  · exact stepR_keep (kp_Get hR) h
theorem aald_ok {C : CT} {cap : Nat × Nat} {P : PT} {K : Option Vv → Mem → Prop} {m : Mem} {ls st : List Vv} {nx uc us : Nat} (hR : OKR m) (h : stepR C cap P K (eAaldR nx ls st m uc us)) : stepE C cap (PO P) K (eAald nx ls st m uc us) := by
  unfold eAaldR at h
  split at h
  · rename_i j o r
    unfold eAald
    dsimp only
    split at h
    · rename_i hb
      rw [hb]
      show vp_in j (ln o) ∧ OKR m ∧ P nx ls (vr (gR m o j.toNatClampNeg) :: r) m uc us
      rw [hR.1 _ _ h.1.2]
      exact ⟨h.1.1, hR, h.2⟩
    · exact absurd h id
  · exact absurd h id
theorem put_ok {C : CT} {cap : Nat × Nat} {P : PT} {K : Option Vv → Mem → Prop} {m : Mem} {ls st : List Vv} {nx a b uc us : Nat} {ts : List Nat} (hR : OKR m) (h : stepR C cap P K (ePutR a b nx ts ls st m uc us)) : stepE C cap (PO P) K (ePut a b nx ts ls st m uc us) := by
  unfold ePutR at h
  split at h
  · exact addQ_ok h
  · rename_i hn
    exact stepR_keep (kp_Put hR hn) h
theorem eff_ok {C : CT} {cap : Nat × Nat} {P : PT} {K : Option Vv → Mem → Prop} {ins : Ins} {m : Mem} {ls st : List Vv} {uc us : Nat} (hR : OKR m) (h : stepR C cap P K (effR cap ins ls st m uc us)) : stepE C cap (PO P) K (eff cap ins ls st m uc us) := by
  obtain ⟨i, a, b, nx, v, ts⟩ := ins
  unfold effR at h
  dsimp only at h
  split at h
  · exact get_ok hR h
  · exact put_ok hR h
  · exact aald_ok hR h
  · exact addQ_ok h
  · exact absurd h id
  · refine stepR_keep ?_ h
    cases i
    all_goals first
      | (rename_i h1 h2 h3 h4 h5; first | exact (h1 _ rfl).elim | exact (h2 _ rfl).elim | exact (h3 rfl).elim | exact (h4 rfl).elim | exact (h5 _ _ rfl).elim)
      | exact hR
      | trivial
      | exact kp_LdI hR
      | exact kp_LdL hR
      | exact kp_LdA hR
      | exact kp_StI hR
      | exact kp_StA hR
      | exact kp_StL hR
      | exact kp_Inc hR
      | exact kp_I2 hR
      | exact kp_I2q hR
      | exact kp_I1 hR
      | exact kp_L2 hR
      | exact kp_L2q hR
      | exact kp_Lc hR
      | exact kp_IL hR
      | exact kp_LI hR
      | exact kp_Iald hR
      | exact kp_Zald hR
      | exact kp_Iast hR
      | exact kp_Zast hR
      | exact kp_Len hR
      | exact kp_New hR
      | exact kp_Arr hR
      | exact kp_Tab hR
      | exact kp_Dup hR
      | exact kp_Pop hR
      | exact kp_Dup2 hR
      | exact kp_Call hR
      | exact kp_End kp_Ret
      | exact kp_End kp_RetL
      | exact kp_End kp_RetA
      | exact kp_End kp_RetV
      | exact kp_Nu hR
      | (unfold eff; dsimp only; split <;> first | exact kp_Cm hR | exact kp_C0 hR | exact kp_Ac hR)
/-- so many steps, up to one of the places hd -/
def stpR (C : CT) (cd : List Ins) (cap : Nat × Nat) (P : PT) (K : Option Vv → Mem → Prop) (ix : Nat) (ls st : List Vv) (m : Mem) (uc us : Nat) : Prop := match cd[ix]? with
  | some ins => stepR C cap P K (effR cap ins ls st m uc us)
  | none => False
def rnR (C : CT) (cd : List Ins) (cap : Nat × Nat) (K : Option Vv → Mem → Prop) (hd : List Nat) : Nat → PT
  | 0 => Go C cd cap K
  | n + 1 => fun ix ls st m uc us => match hd.elem ix with
    | true => Go C cd cap K ix ls st m uc us
    | false => stpR C cd cap (rnR C cd cap K hd n) K ix ls st m uc us
theorem stpR_ok {C : CT} {cd : List Ins} {cap : Nat × Nat} {P : PT} {K : Option Vv → Mem → Prop} {ix : Nat} {ls st : List Vv} {m : Mem} {uc us : Nat} (hR : OKR m) (h : stpR C cd cap P K ix ls st m uc us) : stp C cd cap (PO P) K ix ls st m uc us := by
  unfold stpR at h
  unfold stp
  cases hc : cd[ix]? with
  | none => rw [hc] at h; exact absurd h id
  | some ins => rw [hc] at h; exact eff_ok hR h
theorem runR_go {C : CT} (hC : monoC C) {cd : List Ins} {cap : Nat × Nat} {K : Option Vv → Mem → Prop} {hd : List Nat} : ∀ (n ix : Nat) (ls st : List Vv) (m : Mem) (uc us : Nat), OKR m → rnR C cd cap K hd n ix ls st m uc us → Go C cd cap K ix ls st m uc us
  | 0, _, _, _, _, _, _, _, h => h
  | n + 1, ix, ls, st, m, uc, us, hR, h => by
    unfold rnR at h
    cases he : hd.elem ix with
    | true => rw [he] at h; exact h
    | false => rw [he] at h; exact Go.step hC (stp_mono hC (fun ix ls st m uc us g => runR_go hC n ix ls st m uc us g.1 g.2) (fun _ _ g => g) (stpR_ok hR h))
theorem Go.runR {C : CT} (hC : monoC C) {cd : List Ins} {cap : Nat × Nat} {K : Option Vv → Mem → Prop} (hd : List Nat) (n : Nat) {ix : Nat} {ls st : List Vv} {m : Mem} {uc us : Nat} (hR : OKR m) (h : stpR C cd cap (rnR C cd cap K hd n) K ix ls st m uc us) : Go C cd cap K ix ls st m uc us :=
  Go.step hC (stp_mono hC (fun ix ls st m uc us g => runR_go hC n ix ls st m uc us g.1 g.2) (fun _ _ g => g) (stpR_ok hR h))
