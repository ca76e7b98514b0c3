/-! THE SMALL MACHINE ONCE MORE, for the walks: a reference that is read is named by its place, as the constructors lay the objects out. -/
def kn (m : Mem) (h : Nat) : Nat := match gR m (0, 8, h) 0 with
  | some o => o.2.2
  | none => 0
def crX (k : Nat) : Option Id3 := match k with
  | 0 => some (0, 3, 0) | 1 => some (0, 4, 0) | 2 => some (0, 5, 0) | 3 => some (0, 6, 0) | 4 => some (0, 14, 0) | 5 => some (0, 18, 0) | _ => some (0, 19, 0)
def crS (i k : Nat) : Option Id3 := match k with
  | 0 => some (0, 7, i) | 1 => some (0, 9, i) | _ => some (0, 12, i)
def crT (k : Nat) : Option Id3 := match k with
  | 0 => some (0, 15, 0) | 1 => some (0, 16, 0) | _ => some (0, 17, 0)
def crM (k : Nat) : Option Id3 := match k with
  | 1 => some (1, 1, 0) | 5 => some (1, 2, 0) | 6 => some (1, 3, 0) | 7 => some (1, 4, 0) | 8 => some (1, 5, 0) | 9 => some (1, 6, 0) | 13 => some (1, 7, 0) | 14 => some (1, 8, 0) | 15 => some (1, 9, 0) | 23 => some (1, 10, 0) | 24 => some (1, 11, 0) | 25 => some (1, 12, 0) | 26 => some (1, 13, 0) | 31 => some (1, 14, 0) | 32 => some (1, 15, 0) | 33 => some (1, 16, 0) | 34 => some (1, 17, 0) | 35 => some (1, 18, 0) | 36 => some (1, 19, 0) | _ => none
def crf (m : Mem) (o : Id3) (k : Nat) : Option Id3 := match o with
  | (0, t, i) => (match t with
    | 0 => crX k
    | 1 => some (0, 2, i)
    | 3 => some (0, 1, k)
    | 4 => some (0, 1, 6 + k)
    | 5 => crS i k
    | 6 => some (0, 5, 1 + k)
    | 7 => some (0, 8, 8 * i + k)
    | 8 => some (0, 20, kn m i)
    | 9 => some (0, 10, 40 * i + k)
    | 10 => some (0, 11, i)
    | 12 => some (0, 13, 8 * i + k)
    | 14 => crT k
    | _ => none)
  | (_, _, _) => crM k
/-- the places that hold such references -/
def okr (o : Id3) (k : Nat) : Prop := match o with
  | (0, t, i) => (match t with
    | 0 => i = 0 ∧ k < 7
    | 1 => i < 10 ∧ k = 0
    | 3 => i = 0 ∧ k < 6
    | 4 => i = 0 ∧ k < 4
    | 5 => i < 4 ∧ k < 3
    | 6 => i = 0 ∧ k < 3
    | 7 => i < 4 ∧ k < 8
    | 8 => i < 32 ∧ k = 0
    | 9 => i < 4 ∧ k < 40
    | 10 => i < 160 ∧ k = 0
    | 12 => i < 4 ∧ k < 8
    | 14 => i = 0 ∧ k < 3
    | _ => False)
  | (1, t, i) => t = 0 ∧ i = 0 ∧ (crM k).isSome = true
  | _ => False
def OKR (m : Mem) : Prop := (∀ o k, okr o k → gR m o k = crf m o k) ∧ ∀ h, h < 32 → kn m h < 6
theorem kn_cg {m m' : Mem} (h : ∀ o k, gR m' o k = gR m o k) (i : Nat) : kn m' i = kn m i := by
  unfold kn
  rw [h]
theorem crf_cg {m m' : Mem} (h : ∀ o k, gR m' o k = gR m o k) (o : Id3) (k : Nat) : crf m' o k = crf m o k := by
  unfold crf
  simp only [kn_cg h]
theorem OKR.cg {m m' : Mem} (h : ∀ o k, gR m' o k = gR m o k) (H : OKR m) : OKR m' :=
  ⟨fun o k q => by rw [h, crf_cg h]; exact H.1 o k q, fun i q => by rw [kn_cg h]; exact H.2 i q⟩
theorem OKR.pI {m : Mem} {o : Id3} {k : Nat} {v : Int32} (H : OKR m) : OKR (pI m o k v) := H.cg fun _ _ => gR_pI ..
theorem OKR.pL {m : Mem} {o : Id3} {k : Nat} {v : Int64} (H : OKR m) : OKR (pL m o k v) := H.cg fun _ _ => gR_pL ..
theorem OKR.al {m : Mem} {s t n : Nat} (H : OKR m) : OKR (al m s t n) := H.cg fun _ _ => gR_al ..
theorem OKR.cpI {m : Mem} {src dst : Id3} {sp dp n : Nat} (H : OKR m) : OKR (cpI m src dst sp dp n) := H.cg fun _ _ => gR_cpI ..
def eGetR (a b nx : Nat) (ty : List Nat) (ls st : List Vv) (m : Mem) (uc us : Nat) : Eff := match ty, st with
  | 2 :: _, .inr (.inr (.inl (some o))) :: r => (match Nat.beq (sh o) a with
    | true => eQ (okr o b) (nx, ls, vr (crf m o b) :: r, m, uc, us)
    | false => eN)
  | _, _ => eGet a b nx ty ls st m uc us
def eAaldR (nx : Nat) (ls st : List Vv) (m : Mem) (uc us : Nat) : Eff := match st with
  | .inl j :: .inr (.inr (.inl (some o))) :: r => (match Nat.ble 22 (sh o) && Nat.ble (sh o) 26 with
    | true => eQ (vp_in j (ln o) ∧ okr o j.toNatClampNeg) (nx, ls, vr (crf m o j.toNatClampNeg) :: r, m, uc, us)
    | false => eN)
  | _ => eN
def addQ (E : Eff) : Eff := match E with
  | .inl s => eQ (OKR s.2.2.2.1) s
  | .inr (.inl (q, s)) => eQ (q ∧ OKR s.2.2.2.1) s
  | _ => eN
def ePutR (a b nx : Nat) (ty : List Nat) (ls st : List Vv) (m : Mem) (uc us : Nat) : Eff := match ty with
  | 2 :: _ => addQ (ePut a b nx ty ls st m uc us)
  | _ => ePut a b nx ty ls st m uc us
def effR (cap : Nat × Nat) (ins : Ins) (ls st : List Vv) (m : Mem) (uc us : Nat) : Eff := match ins with
  | (i, a, b, nx, v, ts) => match i with
    | .getfield _ => eGetR a b nx ts ls st m uc us
    | .putfield _ => ePutR a b nx ts ls st m uc us
    | .aaload => eAaldR nx ls st m uc us
    | .aastore => addQ (eAast nx ls st m uc us)
    | .multianewarray _ _ => eN
    | i => eff cap (i, a, b, nx, v, ts) ls st m uc us
def stepR (C : CT) (cap : Nat × Nat) (P : PT) (K : Option Vv → Mem → Prop) (e : Eff) : Prop := match e with
  | .inl (ix, ls, st, m, uc, us) => P ix ls st m uc us
  | .inr (.inl (q, ix, ls, st, m, uc, us)) => q ∧ P ix ls st m uc us
  | .inr (.inr (.inl (c, (ix, ls, st, m, uc, us), (ix2, ls2, st2, m2, uc2, us2)))) => (c → P ix ls st m uc us) ∧ (¬ c → P ix2 ls2 st2 m2 uc2 us2)
  | .inr (.inr (.inr (.inl l))) => foS P l
  | .inr (.inr (.inr (.inr (.inl (y, a, mc, ms, ix, ls, st, m, uc, us))))) => (match mc with
    | 0 => C y a m (fun v m' => OKR m' ∧ P ix ls (inL v st) m' uc us)
    | _ => False)
  | .inr (.inr (.inr (.inr (.inr (.inl (q, v, m)))))) => q ∧ K v m
  | .inr (.inr (.inr (.inr (.inr (.inr _))))) => False
/-- each state that an effect leads to keeps the layout -/
def keepE (E : Eff) : Prop := match E with
  | .inl s => OKR s.2.2.2.1
  | .inr (.inl (q, s)) => q → OKR s.2.2.2.1
  | .inr (.inr (.inl (_, s, t))) => OKR s.2.2.2.1 ∧ OKR t.2.2.2.1
  | .inr (.inr (.inr (.inl l))) => ∀ e ∈ l, OKR e.2.2.2.2.1
  | _ => True
abbrev PO (P : PT) : PT := fun ix ls st m uc us => OKR m ∧ P ix ls st m uc us
theorem foS_keep {P : PT} : ∀ {l : List (Prop × St)}, (∀ e ∈ l, OKR e.2.2.2.2.1) → foS P l → foS (PO P) l
  | [], _, _ => trivial
  | (q, s) :: r, h, g => ⟨fun x => ⟨h _ List.mem_cons_self, g.1 x⟩, foS_keep (fun e he => h e (List.mem_cons_of_mem _ he)) g.2⟩
theorem stepR_keep {C : CT} {cap : Nat × Nat} {P : PT} {K : Option Vv → Mem → Prop} {E : Eff} (hk : keepE E) (h : stepR C cap P K E) : stepE C cap (PO P) K E := by
  rcases E with ⟨ix, ls, st, m, uc, us⟩ | ⟨q, ix, ls, st, m, uc, us⟩ | ⟨c, ⟨ix, ls, st, m, uc, us⟩, ⟨ix2, ls2, st2, m2, uc2, us2⟩⟩ | l | ⟨y, a, mc, ms, ix, ls, st, m, uc, us⟩ | ⟨q, v, m⟩ | u
  · exact ⟨hk, h⟩
  · exact ⟨h.1, hk h.1, h.2⟩
  · exact ⟨fun g => ⟨hk.1, h.1 g⟩, fun g => ⟨hk.2, h.2 g⟩⟩
  · exact foS_keep hk h
  · cases mc with
    | zero => exact h
    | succ k => exact absurd h id
  · exact h
  · exact h
theorem keepM {m : Mem} (hR : OKR m) {E : Eff} (h : match E with
    | .inl s => s.2.2.2.1 = m
    | .inr (.inl (_, s)) => s.2.2.2.1 = m
    | .inr (.inr (.inl (_, s, t))) => s.2.2.2.1 = m ∧ t.2.2.2.1 = m
    | .inr (.inr (.inr (.inl l))) => ∀ e ∈ l, e.2.2.2.2.1 = m
    | _ => True) : keepE E := by
  rcases E with s | ⟨q, s⟩ | ⟨c, s, t⟩ | l | y | y | y
  · show OKR s.2.2.2.1
    rw [show s.2.2.2.1 = m from h]; exact hR
  · intro _
    show OKR s.2.2.2.1
    rw [show s.2.2.2.1 = m from h]; exact hR
  · exact ⟨by rw [show s.2.2.2.1 = m from h.1]; exact hR, by rw [show t.2.2.2.1 = m from h.2]; exact hR⟩
  · intro e he
    show OKR e.2.2.2.2.1
    rw [show e.2.2.2.2.1 = m from h e he]; exact hR
  · trivial
  · trivial
  · trivial
section KE
variable {m : Mem} {ls st : List Vv} {nx a b uc us tt ff : Nat} {cap : Nat × Nat} {ts : List Nat} {v : Vv}
theorem kp_LdI (hR : OKR m) : keepE (eLdI ls a nx st m uc us) := by unfold eLdI; split <;> first | exact hR | trivial
theorem kp_LdL (hR : OKR m) : keepE (eLdL ls a nx st m uc us) := by unfold eLdL; split <;> first | exact hR | trivial
theorem kp_LdA (hR : OKR m) : keepE (eLdA ls a nx st m uc us) := by unfold eLdA; split <;> first | exact hR | trivial
theorem kp_StI (hR : OKR m) : keepE (eStI ls a nx st m uc us) := by unfold eStI; split <;> first | exact hR | trivial
theorem kp_StA (hR : OKR m) : keepE (eStA ls a nx st m uc us) := by unfold eStA; split <;> first | exact hR | trivial
theorem kp_StL (hR : OKR m) : keepE (eStL ls a nx st m uc us) := by unfold eStL; split <;> first | exact hR | trivial
theorem kp_Inc (hR : OKR m) : keepE (eInc ls a nx v st m uc us) := by unfold eInc; split <;> first | exact hR | trivial
theorem kp_I2 {f : Int32 → Int32 → Int32} (hR : OKR m) : keepE (eI2 f ls nx st m uc us) := by unfold eI2; split <;> first | exact hR | trivial
theorem kp_I2q {f : Int32 → Int32 → Int32} (hR : OKR m) : keepE (eI2q f ls nx st m uc us) := by unfold eI2q; split <;> first | exact fun _ => hR | trivial
theorem kp_I1 {f : Int32 → Int32} (hR : OKR m) : keepE (eI1 f ls nx st m uc us) := by unfold eI1; split <;> first | exact hR | trivial
theorem kp_L2 {f : Int64 → Int64 → Int64} (hR : OKR m) : keepE (eL2 f ls nx st m uc us) := by unfold eL2; split <;> first | exact hR | trivial
theorem kp_L2q {f : Int64 → Int64 → Int64} (hR : OKR m) : keepE (eL2q f ls nx st m uc us) := by unfold eL2q; split <;> first | exact fun _ => hR | trivial
theorem kp_Lc (hR : OKR m) : keepE (eLc ls nx st m uc us) := by unfold eLc; split <;> first | exact hR | trivial
theorem kp_IL (hR : OKR m) : keepE (eIL ls nx st m uc us) := by unfold eIL; split <;> first | exact hR | trivial
theorem kp_LI (hR : OKR m) : keepE (eLI ls nx st m uc us) := by unfold eLI; split <;> first | exact hR | trivial
theorem kp_Cm {c : Int32 → Int32 → Prop} (hR : OKR m) : keepE (eCm c ls tt ff st m uc us) := by unfold eCm; split <;> first | exact ⟨hR, hR⟩ | trivial
theorem kp_C0 {c : Int32 → Prop} (hR : OKR m) : keepE (eC0 c ls tt ff st m uc us) := by unfold eC0; split <;> first | exact ⟨hR, hR⟩ | trivial
theorem kp_Nu (hR : OKR m) : keepE (eNu ls tt ff st m uc us) := by unfold eNu; split <;> first | exact hR | trivial
theorem kp_Ac (hR : OKR m) : keepE (eAc ls tt ff st m uc us) := by
  unfold eAc; split
  · split <;> first | exact ⟨hR, hR⟩ | trivial
  · trivial
theorem kp_Get (hR : OKR m) : keepE (eGet a b nx ts ls st m uc us) := by
  unfold eGet; split
  · split <;> first | exact hR | trivial
  · trivial
theorem kp_Put (hR : OKR m) (h2 : ∀ r, ts ≠ 2 :: r) : keepE (ePut a b nx ts ls st m uc us) := by
  unfold ePut; split
  · split <;> first | exact hR.pI | trivial
  · split <;> first | exact hR.pL | trivial
  · exact absurd rfl (h2 _)
  · trivial
theorem kp_Iald (hR : OKR m) : keepE (eIald nx ls st m uc us) := by
  unfold eIald; split
  · split <;> first | exact fun _ => hR | trivial
  · trivial
theorem kp_Zald (hR : OKR m) : keepE (eZald nx ls st m uc us) := by
  unfold eZald; split
  · split <;> first | exact fun _ => hR | trivial
  · trivial
theorem kp_Iast (hR : OKR m) : keepE (eIast nx ls st m uc us) := by
  unfold eIast; split
  · split <;> first | exact fun _ => hR.pI | trivial
  · trivial
theorem kp_Zast (hR : OKR m) : keepE (eZast nx ls st m uc us) := by
  unfold eZast; split
  · split <;> first | exact fun _ => hR.pI | trivial
  · trivial
theorem kp_Len (hR : OKR m) : keepE (eLen nx ls st m uc us) := by
  unfold eLen; split
  · split <;> first | exact hR | trivial
  · trivial
theorem kp_New {s t n : Nat} (hR : OKR m) : keepE (eNew cap s t nx n ls st m uc us) := fun _ => hR.al
theorem kp_Arr {s t : Nat} (hR : OKR m) : keepE (eArr cap s t nx ls st m uc us) := by unfold eArr; split <;> first | exact fun _ => hR.al | trivial
theorem kp_Sw (hR : OKR m) {x : Int32} : ∀ (ts : List Nat) (n : Nat), ∀ e ∈ eSw x n ts ls st m uc us, OKR e.2.2.2.2.1
  | [], _, e, he => by simp [eSw] at he
  | t :: r, n, e, he => by
    unfold eSw at he
    rcases List.mem_cons.mp he with rfl | he
    · exact hR
    · exact kp_Sw hR r _ e he
theorem kp_Tab (hR : OKR m) : keepE (eTab a b ts ls st m uc us) := by
  unfold eTab; split
  · intro e he
    rcases List.mem_cons.mp he with rfl | he
    · exact hR
    · exact kp_Sw hR _ _ e he
  · trivial
theorem kp_Dup (hR : OKR m) : keepE (eDup nx ls st m uc us) := by
  unfold eDup; split
  · split <;> first | exact hR | trivial
  · trivial
theorem kp_Pop (hR : OKR m) : keepE (ePop nx ls st m uc us) := by
  unfold ePop; split
  · split <;> first | exact hR | trivial
  · trivial
theorem kp_Dup2 (hR : OKR m) : keepE (eDup2 nx ls st m uc us) := by
  unfold eDup2; split
  · split <;> first | exact hR | trivial
  · trivial
theorem kp_Cpy (hR : OKR m) : keepE (eCpy nx ls st m uc us) := by
  unfold eCpy; split
  · split <;> first | exact fun _ => hR.cpI | trivial
  · trivial
theorem kp_Prm (hR : OKR m) : keepE (ePrm a nx ls st m uc us) := by
  unfold ePrm; split
  · split <;> first | exact hR | trivial
  · exact kp_Cpy hR
  · split <;> first | exact hR | trivial
  · split <;> first | exact hR | trivial
  · split <;> first | exact hR | trivial
  · trivial
theorem kp_Call (hR : OKR m) : keepE (eEnd cap uc us (eCall a b nx ts ls st m uc us)) := by
  unfold eEnd; split
  · unfold eCall; split
    · exact kp_Prm hR
    · split <;> trivial
    · trivial
  · trivial
theorem kp_End {E : Eff} (h : keepE E) : keepE (eEnd cap uc us E) := by
  unfold eEnd; split
  · exact h
  · trivial
theorem kp_Ret : keepE (eRet a st m) := by unfold eRet; split <;> trivial
theorem kp_RetL : keepE (eRetL st m) := by unfold eRetL; split <;> trivial
theorem kp_RetA : keepE (eRetA st m) := by unfold eRetA; split <;> trivial
theorem kp_RetV : keepE (eRetV st m) := by unfold eRetV; split <;> trivial
end KE
