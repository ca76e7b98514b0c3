/-! WHAT THE SMALL MACHINE DOES, THE JVM DOES: calls, ends, whole methods. -/
abbrev rNm (r : MRow) : MethodName := r.1
abbrev rOc (r : MRow) : Nat := r.2.2.2.2.1
abbrev rRm (r : MRow) : Nat × Nat := r.2.2.2.2.2.2.2.1
abbrev rCp (r : MRow) : Nat × Nat := r.2.2.2.2.2.2.2.2
def wsR (r : MRow) : List Cond := Cond.code r.1 r.2.1 r.2.2.1 r.2.2.2.1 :: gw
def rmR (r : MRow) : Room := { frames := (rRm r).1, cells := (rCp r).1, slots := (rCp r).2, locals := (rRm r).2 }
def PreM (B b L : Nat) (xs : Nat → Int32) (kd : Nat → Nat) (D : va_G) (ad : Id3 → Nat) (m : Mem) (U : State) : Prop :=
  REL B b L xs kd D U ad m U.heap ∧ va_K D clsT [] U ∧ B ≤ U.heap.size ∧ va_En "NoiseTithe$Kind" "LNoiseTithe$Kind;" KN KFL kd (AB B) U U.heap ∧ va_X b L xs U U.heap ∧ ∀ w ∈ nw, w.before #[] U = true
def PcM (B b L : Nat) (xs : Nat → Int32) (kd : Nat → Nat) (D : va_G) (ad : Id3 → Nat) (as : List Vv) (m : Mem) : Array Value → State → Prop := fun v U => v = (as.map (cv ad)).toArray ∧ PreM B b L xs kd D ad m U
def QcM (B b L : Nat) (xs : Nat → Int32) (kd : Nat → Nat) (D : va_G) (ad : Id3 → Nat) (m : Mem) (K : Option Vv → Mem → Prop) : Array Value → State → Outcome → State → Prop := fun _ st o t =>
  (∃ (v : Option Vv) (m' : Mem) (ad' : Id3 → Nat), o = .returned (v.map (cv ad')) ∧ K v m' ∧ REL B b L xs kd D t ad' m' t.heap ∧ (∀ x, alc m x → alc m' x ∧ ad' x = ad x) ∧ ∀ w, v = some w → vok L m' w) ∧ va_F (AB B) st t
/-- the calls are sound -/
def SND (l : Launch) (B b L : Nat) (xs : Nat → Int32) (kd : Nat → Nat) (C : CT) : Prop := ∀ (y : Nat) (as : List Vv) (m : Mem) (K : Option Vv → Mem → Prop) (r : MRow), C y as m K → MT[y]? = some r → rOc r ≠ 13 → plainName (rNm r).cls = true → ∀ (D : va_G) (ad : Id3 → Nat), (∀ v ∈ as, vok L m v) → Met l (rNm r) (wsR r) (rmR r) (PcM B b L xs kd D ad as m) (QcM B b L xs kd D ad m K) (rCp r).1 (rCp r).2 (AB B)
theorem nw_vm {w : Cond} (hw : w ∈ nw) {A A' : Array Value} {u U : State} (hv : u.vm = U.vm) (h : w.before A u = true) : w.before A' U = true := by
  have hn := (List.mem_filter.mp hw).2
  cases w <;> first | (exact Bool.noConfusion hn) | (exact va_tabs rfl hv h) | skip
  have h2 := (Cond.arrayOver_setVmC (args := A) (s := u) (vm' := U.vm) (by rw [hv]; exact Vm.Alike.refl _) _).trans h
  exact h2
theorem nw_warm {w : Cond} (hw : w ∈ nw) {A A' : Array Value} {s U : State} (hW : s.WarmedH U.vm) (h : w.before A s = true) : w.before A' U = true := by
  have h0 : w.before #[] s = true := nw_vm hw rfl h
  have hn := (List.mem_filter.mp hw).2
  cases w <;> first | (exact Bool.noConfusion hn) | (exact nw_vm hw rfl (va_Nw.warmF hW h0)) | (exact nw_vm hw rfl (va_Nw.warmM hW h0)) | skip
  have h2 := (Cond.arrayOver_setVmC (args := A') (s := s) (vm' := U.vm) hW.alike _).trans (nw_vm (A' := A') hw rfl h)
  exact h2
theorem PcM_blind {B b L : Nat} {xs : Nat → Int32} {kd : Nat → Nat} {D : va_G} {ad : Id3 → Nat} {as : List Vv} {m : Mem} : FrameBlind (PcM B b L xs kd D ad as m) := by
  intro a U g mk h
  obtain ⟨h1, h2, h3, h4, h5, h6, h7⟩ := h
  exact ⟨h1, REL.moved (u := U) (U := U.calling g mk a) (Vm.Alike.refl U.vm) h2, va_K.moved (u := U) (U := U.calling g mk a) (Vm.Alike.refl U.vm) h3, h4, va_En.moved (u := U) (U := U.calling g mk a) (Vm.Alike.refl U.vm) h5, va_X.moved (u := U) (U := U.calling g mk a) (Vm.Alike.refl U.vm) h6, fun w hw => nw_vm hw (u := U) rfl (h7 w hw)⟩
theorem cp0 : MT.all (fun r => !(Nat.beq (rCp r).1 0) || Nat.beq (rCp r).2 0) = true := by decide +kernel
theorem ma_13 : (metL.zip MT).all (fun e => Nat.beq e.1.1 9 || !(Nat.beq (rOc e.2) 13)) = true := by decide +kernel
section TE
variable {p : Program} {l : Launch} {e : Env} {R : Room} {s : State} {mm : MethodId} {args : Array Value} {below : List Frame} {meth : Method} {c : Code} {Q : State → Prop} {cc : ByteArray} {nL oc B b L : Nat} {xs : Nat → Int32} {kd : Nat → Nat} {D : va_G} {m0 : Mem} {ad0 ad : Id3 → Nat} {pcs : List Nat}
  {C : CT} {cap : Nat × Nat} {K : Option Vv → Mem → Prop} {ls st : List Vv} {m : Mem} {uc us pc nx a : Nat} {H : Heap} {locs : List Loc} {lsC : Array Slot}
theorem pre_at (X : CTX p s mm args c cc nL oc B b L xs kd D) (T : ST B b L xs kd D s nL m0 ad0 ad H locs lsC ls st m) {U : State} (hU : U.heap = H) (hW : s.WarmedH U.vm) : PreM B b L xs kd D ad m U := by
  have hB : B ≤ H.size := Nat.le_trans X.2.2.2.2.2.2.2.1 T.2.1.1
  have hk : ∀ q : Nat, q < s.heap.size → ¬ AB B q → H[q]? = s.heap[q]? := T.2.1.2.1
  refine ⟨by rw [hU]; exact T.1.moved hW.alike, va_K.moved hW.alike X.2.2.2.2.2.2.1, by rw [hU]; exact hB, ?_, ?_, fun w hw => nw_warm hw hW (X.2.2.2.2.2.1 w hw)⟩
  · rw [hU]
    exact va_En.moved hW.alike (X.2.2.2.2.2.2.2.2.1.kept hk)
  · rw [hU]
    refine va_X.moved hW.alike (X.2.2.2.2.2.2.2.2.2.1.kept (hk b (Nat.lt_of_lt_of_le X.2.2.2.2.2.2.2.2.2.2 X.2.2.2.2.2.2.2.1) (fun q : B ≤ b => absurd X.2.2.2.2.2.2.2.2.2.2 (Nat.not_lt.mpr q))))
theorem sx_fin {rest : List Vv} {st0 : List Value} {mc ms : Nat} {A : Array Value} (X : CTX p s mm args c cc nL oc B b L xs kd D) (T : ST B b L xs kd D s nL m0 ad0 ad H locs lsC ls st m) (hrest : ∀ v ∈ rest, vok L m v)
    (hr : va_Run p l e R s mm args below meth c H locs uc us mc ms (F0 mm pc lsC st0) (rest.map (cv ad)) (QcM B b L xs kd D ad m K A) (AB B)) (hf : pcs[nx]? = some (pc + 3))
    (g : ∀ v m', K v m' → PW p l e R s mm args below meth c Q B b L xs kd D nL m0 ad0 pcs nx ls (inL v rest) m' (uc + mc) (us + ms)) : W p l e R s mm args below meth c H locs uc us Q (F0 mm pc lsC st0) := by
  intro T0 hT X0
  obtain ⟨v, st₀, t, T', Lc, h0, X', hL, e1, e2, ⟨⟨w, m', ad', hv, hK, hrel, hal, hvk⟩, hz, hk⟩, stp⟩ := hr T0 hT X0
  have hv := Outcome.returned.inj hv
  subst hv
  rw [h0] at hz hk
  have hvm : s.vm.Alike t.vm := by rw [← e2]; exact X'.warmed.alike
  obtain ⟨t1, t2, t3, t4, t5, t6⟩ := T
  have hrel' : REL B b L xs kd D s ad' m' T'.heap := by rw [e1]; exact hrel.moved hvm.symm
  have hll : ∀ x, live L m x → live L m' x := fun x hx => hx.imp (fun q => (hal x q).1) id
  have hlive : ∀ x, live L m x → ad' x = ad x := by
    intro x hx
    rcases hx with h | ⟨h1, h2, h3⟩ | rfl
    · exact (hal x h).2
    · obtain ⟨xa, xt, xi⟩ := x
      dsimp only at h1 h2
      subst h1; subst h2
      exact (hrel.2.2.2.2.1 xi).trans (t1.2.2.2.2.1 xi).symm
    · exact hrel.2.2.2.2.2.1.trans t1.2.2.2.2.2.1.symm
  have hvr : ∀ v ∈ rest, vok L m' v := fun v hv r hr => hll r (hrest v hv r hr)
  have T1 : ST B b L xs kd D s nL m0 ad0 ad' T'.heap (locs ++ Lc) lsC ls (inL w rest) m' := by
    refine ⟨hrel', ⟨Nat.le_trans t2.1 (by rw [e1]; exact hz), fun q g1 g2 => ?_, fun q hq => ?_⟩, t3.ext hlive t4, fun v hv r hr => hll r (t4 v hv r hr), fun v hv => ?_, fun o ho => ⟨(hal o (t6 o ho).1).1, (hal o (t6 o ho).1).2.trans (t6 o ho).2⟩⟩
    · rw [e1, hk q (Nat.lt_of_lt_of_le g1 t2.1) g2]
      exact t2.2.1 q g1 g2
    · rcases List.mem_append.mp hq with h | h
      · exact t2.2.2 q h
      · exact hL q h
    · cases w with
      | none => exact hvr v hv
      | some w =>
        rcases List.mem_cons.mp hv with rfl | hv
        · exact hvk _ rfl
        · exact hvr v hv
  obtain ⟨t', a1, b1⟩ := g w m' hK _ hf ad' T'.heap (locs ++ Lc) lsC T1 T' rfl X'
  refine ⟨t', stp t' ?_, b1⟩
  have hst : (inL w rest).map (cv ad') = (w.map (cv ad')).toList ++ rest.map (cv ad) := by
    cases w with
    | none => exact cvs_ext hlive hrest
    | some w => exact congrArg (cv ad' w :: ·) (cvs_ext hlive hrest)
  rw [hst] at a1
  exact a1
theorem recv_at (X : CTX p s mm args c cc nL oc B b L xs kd D) (T : ST B b L xs kd D s nL m0 ad0 ad H locs lsC ls st m) {o : Id3} (hlv : live L m o) (h8 : sh o ≤ 8) : ∃ cell : Cell, H[ad o]? = some cell ∧ cell.vm.isStatics = false ∧ s.vm.findClass (clsN (sh o)) = some cell.cls := by
  by_cases h : sh o < 8
  · have hal := live_alc hlv (by omega) (by omega)
    obtain ⟨r', h1, cell, g1, g2, g3, -⟩ := (T.cell hal).2.1 h
    have hcl := clsT_at h
    have hr : r' = (clsN (sh o), (fun k => fT (sh o) k), fN (sh o)) := Option.some.inj (h1.symm.trans hcl)
    exact ⟨cell, g1, by rw [g3]; rfl, by rw [g2]; exact (X.2.2.2.2.2.2.1.1 _ _ hcl).2.1⟩
  · have h8 : sh o = 8 := by omega
    obtain ⟨h1, h2, h3⟩ := live_kind hlv h8
    obtain ⟨oa, ot, oi⟩ := o
    dsimp only at h1 h2 h3
    subst h1; subst h2
    rw [T.1.2.2.2.2.1 oi]
    exact va_recvE X.2.2.2.2.2.2.2.2.1 h3 T.2.1
theorem zip_at {a : Nat} {q : Nat × Nat × Nat × Nat × Nat × Nat} {r : MRow} (h1 : metL[a]? = some q) (h2 : MT[a]? = some r) : (q, r) ∈ metL.zip MT := List.mem_of_getElem? (i := a) (by rw [List.getElem?_zip_eq_some]; exact ⟨h1, h2⟩)
/-- what the check says of a call -/
theorem callF {k i n mc ms c' rf rl : Nat} (h : chkCall k oc i a n mc ms c' rf rl = true) (hk : k = 0 ∨ k = 1 ∨ k = 2) : ∃ (r : MRow) (pl : Nat) (nest : Bool) (np : Nat), MT[a]? = some r ∧ rOc r ≠ 13 ∧ cdOk r ∧ (match nest with
      | true => Cond.methodLinkNest (clsN oc) i (rNm r) "NoiseTithe" ∈ nw
      | false => Cond.methodLink (clsN oc) i (rNm r) ∈ gw) ∧ Cond.initialized (rNm r).cls ∈ gw ∧ (k = 0 → Cond.instanceMethod (rNm r) ∈ gw ∧ Cond.selects (rNm r).cls (rNm r) (rNm r) ∈ gw ∧ n = np + 1 ∧ (rNm r).cls = clsN c' ∧ c' ≤ 8) ∧ (k = 1 → Cond.static (rNm r) ∈ gw ∧ n = np) ∧ (k = 2 → Cond.instanceMethod (rNm r) ∈ gw ∧ (rNm r).name = "<init>" ∧ r.2.2.2.1 = none ∧ n = np + 1 ∧ c' = 98) ∧
      plainName (rNm r).cls = true ∧ (rNm r).cls ≠ "java/lang/invoke/MethodHandle" ∧ (rNm r).cls ≠ "java/lang/invoke/VarHandle" ∧ (parseMethodDescriptor (rNm r).desc).map (fun d => d.parameters.length) = some np ∧ rCp r = (mc, ms) ∧ (rRm r).1 + 1 ≤ rf ∧ 8 + (r.2.2.1 + 11) + (rRm r).2 ≤ rl ∧ (mc = 0 → ms = 0) := by
  unfold chkCall at h
  rw [Bool.and_eq_true] at h
  obtain ⟨hl, hm⟩ := h
  obtain ⟨⟨oc', i', a', pl, nest⟩, hin, hq⟩ := any_of hl
  simp only [Bool.and_eq_true, Nat.beq_eq] at hq
  obtain ⟨⟨rfl, rfl⟩, rfl⟩ := hq
  have hlk := all_at la_all hin
  unfold chkK at hlk
  cases hme : metL[a']? with
  | none => rw [hme] at hm; exact absurd hm (by simp)
  | some q =>
    cases hmt : MT[a']? with
    | none => rw [hme, hmt] at hm; exact absurd hm (by simp)
    | some r =>
      rw [hme, hmt] at hm
      obtain ⟨k', pc', pi, pk, ps, np⟩ := q
      have hz := zip_at hme hmt
      have hcm := all_at ma_all hz
      have h13 := all_at ma_13 hz
      have hnm : mNm a' = rNm r := by unfold mNm; rw [hmt]
      obtain ⟨y, cc', nL', ret', oc2, cd, pcs', ⟨f, w⟩, ⟨mc', ms'⟩⟩ := r
      simp only [Bool.and_eq_true, Nat.beq_eq] at hm
      obtain ⟨⟨⟨⟨⟨⟨hkk, hn⟩, hmc⟩, hms⟩, hfr⟩, hlo⟩, hrc⟩ := hm
      subst hkk; subst hmc; subst hms
      have hk9 : k ≠ 9 := by omega
      have hoc : oc2 ≠ 13 := by
        simp only [Bool.or_eq_true, Nat.beq_eq, Bool.not_eq_true'] at h13
        rcases h13 with h | h
        · exact absurd h hk9
        · intro e
          have h : Nat.beq oc2 13 = false := h
          rw [e] at h
          cases h
      have hmem : ((y, cc', nL', ret', oc2, cd, pcs', (f, w), mc, ms) : MRow) ∈ MT := List.mem_of_getElem? hmt
      have hcd := ca_all _ hmem hoc
      have hcp := all_at cp0 hmem
      unfold chkM at hcm
      have hcm : (inTbl pi (.initialized y.cls) && (match (generalizing := false) k with
    | 0 => inTbl pk (.instanceMethod y) && inTbl ps (.selects y.cls y y)
    | 1 => inTbl pk (.static y)
    | _ => inTbl pk (.instanceMethod y) && decide (y.name = "<init>") && decide (ret' = none)) && decide (y.cls = clsN oc2) && plainName y.cls && decide (y.cls ≠ "java/lang/invoke/MethodHandle") && decide (y.cls ≠ "java/lang/invoke/VarHandle") && decide ((parseMethodDescriptor y.desc).map (fun d => d.parameters.length) = some np)) = true := by
        rcases hk with rfl | rfl | rfl <;> exact hcm
      simp only [Bool.and_eq_true, decide_eq_true_eq] at hcm
      obtain ⟨⟨⟨⟨⟨⟨hi1, hi2⟩, hi3⟩, hi4⟩, hi5⟩, hi6⟩, hi7⟩ := hcm
      refine ⟨_, pl, nest, np, rfl, hoc, hcd, ?_, gw_in hi1, fun hk0 => ?_, fun hk1 => ?_, fun hk2 => ?_, hi4, hi5, hi6, hi7, rfl, Nat.le_of_ble_eq_true hfr, Nat.le_of_ble_eq_true hlo, fun hz0 => ?_⟩
      · cases nest with
        | true =>
          have hlk : inNw pl (.methodLinkNest (clsN oc') i' (mNm a') "NoiseTithe") = true := hlk
          rw [hnm] at hlk
          exact nw_in hlk
        | false =>
          have hlk : inTbl pl (.methodLink (clsN oc') i' (mNm a')) = true := hlk
          rw [hnm] at hlk
          exact gw_in hlk
      · subst hk0
        simp only [Bool.and_eq_true] at hi2 hrc
        have hcc : c' = oc2 := Nat.eq_of_beq_eq_true hrc.1
        exact ⟨gw_in hi2.1, gw_in hi2.2, Nat.eq_of_beq_eq_true hn, by rw [hcc]; exact hi3, Nat.le_of_ble_eq_true hrc.2⟩
      · subst hk1
        exact ⟨gw_in hi2, Nat.eq_of_beq_eq_true hn⟩
      · subst hk2
        simp only [Bool.and_eq_true, decide_eq_true_eq] at hi2
        exact ⟨gw_in hi2.1.1, hi2.1.2, hi2.2, Nat.eq_of_beq_eq_true hn, Nat.eq_of_beq_eq_true hrc⟩
      · have hcp : (!(Nat.beq mc 0) || Nat.beq ms 0) = true := hcp
        rw [hz0] at hcp
        exact Nat.eq_of_beq_eq_true hcp
theorem good_gw {ws : List Cond} (h : ∀ w ∈ ws, w ∈ gw) : GoodIn gw ws := fun w hw => ⟨h w hw, good_of_word (List.mem_filter.mp (h w hw)).2⟩
theorem wsR_in {r : MRow} (h : cdOk r) : ∀ w ∈ wsR r, w ∈ gw := by
  intro w hw
  rcases List.mem_cons.mp hw with rfl | hw
  · exact List.mem_filter.mpr ⟨h, rfl⟩
  · exact hw
theorem take_map {n : Nat} {st : List Vv} (h : n ≤ st.length) : st.map (cv ad) = ((st.take n).reverse.map (cv ad)).reverse ++ (st.drop n).map (cv ad) := by
  rw [List.map_reverse, List.reverse_reverse, ← List.map_append, List.take_append_drop]
theorem sx_call {k i n mc ms c' rf rl : Nat} (X : CTX p s mm args c cc nL oc B b L xs kd D) (Snd : SND l B b L xs kd C) (hcap : cap.1 ≤ R.cells ∧ cap.2 ≤ R.slots) (hR : rf ≤ R.frames ∧ rl ≤ R.locals) (hk : k = 0 ∨ k = 1 ∨ k = 2) (hchk : chkCall k oc i a n mc ms c' rf rl = true)
    (hd : (k = 0 ∧ decode cc pc = .ok (.invokevirtual i, 3)) ∨ (k = 1 ∧ decode cc pc = .ok (.invokestatic i, 3)) ∨ (k = 2 ∧ decode cc pc = .ok (.invokespecial i, 3))) (hf : pcs[nx]? = some (pc + 3)) (hu : uc ≤ cap.1 ∧ us ≤ cap.2)
    (hs : stepE C cap (PW p l e R s mm args below meth c Q B b L xs kd D nL m0 ad0 pcs) K (eCall a n nx [mc, ms, c'] ls st m uc us)) (T : ST B b L xs kd D s nL m0 ad0 ad H locs lsC ls st m) : W p l e R s mm args below meth c H locs uc us Q (F0 mm pc lsC (st.map (cv ad))) := by
  obtain ⟨r, pl, nest, np, hmt, hoc, hcd, hlink, hinit, hk0, hk1, hk2, hpn, hn1, hn2, hdesc, hcp, hfr, hlo, hz⟩ := callF hchk hk
  unfold eCall at hs
  dsimp only at hs
  split at hs
  rotate_left
  · exact absurd hs id
  rename_i hb
  rw [Bool.and_eq_true, Bool.and_eq_true] at hb
  obtain ⟨hb1, hb2, hb3⟩ := hb
  have hlen : n ≤ st.length := Nat.le_of_ble_eq_true hb1
  have hcat : ctgs (st.drop n) ≤ 8 := Nat.le_of_ble_eq_true hb2
  generalize has : (st.take n).reverse = as at hs hb3
  generalize hrs : st.drop n = rest at hs hcat
  have hlas : as.length = n := by rw [← has, List.length_reverse, List.length_take]; omega
  have hmap : st.map (cv ad) = (as.map (cv ad)).reverse ++ rest.map (cv ad) := by rw [← has, ← hrs]; exact take_map hlen
  have hva : ∀ v ∈ as, vok L m v := fun v hv => T.2.2.2.2.1 v (List.mem_of_mem_take (List.mem_reverse.mp (by rw [has]; exact hv)))
  have hvr : ∀ v ∈ rest, vok L m v := fun v hv => T.2.2.2.2.1 v (List.mem_of_mem_drop (by rw [hrs]; exact hv))
  -- the call and what comes behind it, in one shape
  have hC : C a as m (fun v m' => PW p l e R s mm args below meth c Q B b L xs kd D nL m0 ad0 pcs nx ls (inL v rest) m' (uc + mc) (us + ms)) ∧ uc + mc ≤ cap.1 ∧ us + ms ≤ cap.2 := by
    cases hmc : mc with
    | zero =>
      rw [hmc] at hs hz
      have hms := hz rfl
      subst hms
      exact ⟨hs, by omega, by omega⟩
    | succ q =>
      rw [hmc] at hs
      exact ⟨hs.2, hs.1⟩
  obtain ⟨hC, hC1, hC2⟩ := hC
  have hM := Snd a as m _ r hC hmt hoc hpn D ad hva
  rw [hcp] at hM
  have hrc : (rmR r).cells = mc := by show (rCp r).1 = mc; rw [hcp]
  have hrs2 : (rmR r).slots = ms := by show (rCp r).2 = ms; rw [hcp]
  have hroom : (rmR r).frames + 1 ≤ R.frames ∧ 8 + (r.2.2.1 + 11) + (rmR r).locals ≤ R.locals := ⟨Nat.le_trans hfr hR.1, Nat.le_trans hlo hR.2⟩
  have hG : GoodIn gw (wsR r) := good_gw (wsR_in hcd)
  have hts := X.2.2.2.2.1
  have hini := hts _ hinit
  have hlen' : ∀ sig, parseMethodDescriptor (rNm r).desc = some sig → np = sig.parameters.length := fun sig h => by
    rw [h] at hdesc
    exact (Option.some.inj hdesc).symm
  have hcode : Cond.code (rNm r) r.2.1 r.2.2.1 r.2.2.2.1 ∈ wsR r := List.mem_cons_self
  have hfin : uc + mc ≤ R.cells ∧ us + ms ≤ R.slots := ⟨Nat.le_trans hC1 hcap.1, Nat.le_trans hC2 hcap.2⟩
  have hsize : (F0 mm pc lsC (st.map (cv ad))).locals.size = nL := T.2.2.1.1
  have hww : 2 * (F0 mm pc lsC (st.map (cv ad))).monitorRoom + ((rest.map (cv ad)).map fun v => v.category).sum ≤ 8 := lv_room (by rw [cvs_cat]; exact hcat)
  have hCF : CallFix p mm c cc nL s args gw (clsN oc) := ⟨X.1, X.2.1, X.2.2.1, X.2.2.2.1, hts⟩
  have hB0 : rmR r = rmR r ∧ True := ⟨rfl, trivial⟩
  have hPS : ∀ U : State, U.heap = H → s.WarmedH U.vm → PcM B b L xs kd D ad as m (as.map (cv ad)).toArray U := fun U hU hW => ⟨rfl, pre_at X T hU hW⟩
  have hCB : nest = false → CallB R s args (clsN oc) i (rNm r) r.2.1 r.2.2.1 r.2.2.2.1 (wsR r) (rmR r) mc ms np := fun hn => by
    subst hn
    exact ⟨hrc, hrs2, hroom.1, hroom.2, pay_in hts hG, hcode, hts _ (wsR_in hcd _ hcode), hini, ⟨hn1, hn2⟩, hlen', hts _ hlink⟩
  have hCN : nest = true → va_CN R s args (clsN oc) i (rNm r) "NoiseTithe" r.2.1 r.2.2.1 r.2.2.2.1 (wsR r) (rmR r) mc ms np := fun hn => by
    subst hn
    exact ⟨⟨hrc, hrs2, hroom.1, hroom.2, pay_in hts hG, hcode⟩, hts _ (wsR_in hcd _ hcode), hini, ⟨hn1, hn2⟩, hlen', X.2.2.2.2.2.1 _ hlink⟩
  rcases hd with ⟨rfl, hd⟩ | ⟨rfl, hd⟩ | ⟨rfl, hd⟩
  · obtain ⟨hin, hsel, hnp, hcls, hc8⟩ := hk0 rfl
    -- the receiver
    have h99 : Nat.beq c' 99 = false := by
      cases h : Nat.beq c' 99 with
      | false => rfl
      | true => have := Nat.eq_of_beq_eq_true h; omega
    unfold rcv at hb3
    rw [h99] at hb3
    rcases as with _ | ⟨v0, As⟩
    · exact absurd hb3 (by simp)
    rcases v0 with x | x | (_ | o) | u
    · exact absurd hb3 (by simp)
    · exact absurd hb3 (by simp)
    · exact absurd hb3 (by simp)
    · have hso : sh o = c' := by
        rcases Bool.or_eq_true _ _ ▸ hb3 with h | h
        · have := Nat.eq_of_beq_eq_true h
          omega
        · exact Nat.eq_of_beq_eq_true h
      have hlv : live L m o := hva _ List.mem_cons_self o rfl
      obtain ⟨cell, r1, r2, r3⟩ := recv_at X T hlv (by omega)
      rw [hso, ← hcls] at r3
      have hAs : (As.map (cv ad)).length = np := by rw [List.length_map]; simp only [List.length_cons] at hlas; omega
      have hstk : (F0 mm pc lsC (st.map (cv ad))).stack = (As.map (cv ad)).reverse ++ .ref (ad o) :: rest.map (cv ad) := by
        show st.map (cv ad) = _
        rw [hmap]
        simp [cv, va_rf]
      have hPV : PreV s H (rNm r).cls (ad o) (PcM B b L xs kd D ad (vr (some o) :: As) m) (As.map (cv ad)) := ⟨PcM_blind, ⟨cell, r1, r2, r3⟩, hPS⟩
      cases nest with
      | true => exact sx_fin X T hvr (va_runVN hCF hM ⟨hCN rfl, hts _ hin, hts _ hsel⟩ hPV rfl hAs hsize hstk hww hd hfin) hf (fun v m' h => h)
      | false => exact sx_fin X T hvr (va_runV hCF hM ⟨hCB rfl, hts _ hin, hts _ hsel⟩ hPV rfl hAs hsize hstk hww hd hfin) hf (fun v m' h => h)
    · exact absurd hb3 (by simp)
  · obtain ⟨hst, hnp⟩ := hk1 rfl
    have hAs : (as.map (cv ad)).length = np := by rw [List.length_map]; omega
    have hstk : (F0 mm pc lsC (st.map (cv ad))).stack = (as.map (cv ad)).reverse ++ rest.map (cv ad) := hmap
    have hPV : PreS s H (PcM B b L xs kd D ad as m) (as.map (cv ad)) := ⟨PcM_blind, hPS⟩
    cases nest with
    | true => exact sx_fin X T hvr (va_runSN hCF hM ⟨hCN rfl, hts _ hst, trivial⟩ hPV rfl hAs hsize hstk hww hd hfin) hf (fun v m' h => h)
    | false => exact sx_fin X T hvr (va_runS hCF hM ⟨hCB rfl, hts _ hst⟩ hPV rfl hAs hsize hstk hww hd hfin) hf (fun v m' h => h)
  · obtain ⟨hin, hname, hret, hnp, hc98⟩ := hk2 rfl
    subst hc98
    unfold rcv at hb3
    rcases as with _ | ⟨v0, As⟩
    · simp only [List.length_nil] at hlas; omega
    have hAs : (As.map (cv ad)).length = np := by rw [List.length_map]; simp only [List.length_cons] at hlas; omega
    rcases v0 with x | x | (_ | o) | u
    · exact absurd hb3 (by simp)
    · exact absurd hb3 (by simp)
    · exact absurd hb3 (by simp)
    · have hstk : (F0 mm pc lsC (st.map (cv ad))).stack = (As.map (cv ad)).reverse ++ .ref (ad o) :: rest.map (cv ad) := by
        show st.map (cv ad) = _
        rw [hmap]
        simp [cv, va_rf]
      have hPV : PreS s H (PcM B b L xs kd D ad (vr (some o) :: As) m) (.ref (ad o) :: As.map (cv ad)) := ⟨PcM_blind, hPS⟩
      rw [hret] at hCB hCN
      cases nest with
      | true => exact sx_fin X T hvr (va_runIN hCF hM ⟨hCN rfl, hname, hts _ hin⟩ hPV rfl hAs hsize hstk hww hd hfin) hf (fun v m' h => h)
      | false => exact sx_fin X T hvr (va_runI hCF hM ⟨hCB rfl, hname, hts _ hin⟩ hPV rfl hAs hsize hstk hww hd hfin) hf (fun v m' h => h)
    · exact absurd hb3 (by simp)
end TE
