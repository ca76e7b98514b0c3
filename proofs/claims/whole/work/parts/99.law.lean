/-! THE CLAIM OUT OF ONE WALK OF THE LAW'S BODY. Your part is whole_start (and what it stands on); all else here is the same for every law, but numbers. -/
def R_law : String := "NoiseTitheLaw"
def lw_P (b : Addr) (xs : List Int32) (args : Array Value) (s : State) : Prop := args = #[.ref b] ∧ s.IntsAt b xs ∧ xs.length ≤ 3072 ∧ (Jvm.Cond.and given_1 narrow_1).before args s = true
def lw_Q (_ : Array Value) (s : State) (o : Outcome) (t : State) : Prop := o = .returned (some (.int 1)) ∧ Framed s o t [] 600000 7302250
def lw_Z (below : List Frame) (a : Array Value) (s : State) : State → Prop := fun t => ∃ o, t.status = .running ∧ Ended t below o ∧ lw_Q a s o t
/-- the law's own end, with 1 on the stack, nothing written that was there before, its room as the claim has it -/
theorem lw_ret {p : Program} {l : Launch} {e : Env} {s : State} {m : MethodId} {below : List Frame} {meth : Method} {c : Code} {b : Nat} (hx : p.tables.exec = Jvm.exec) (hb : c.code = code) (hr : meth.sig.returnType = ret) (hlocks : meth.locks = false) {pc : Nat} {H : Heap} {ls : Array Slot} (hdg : decode code pc = .ok (.ireturn, 1)) : W p l e room_1 s m #[Value.ref b] below meth c H [] 600000 7302250 (lw_Z below #[Value.ref b] s) (F0 m pc ls [.int 1]) := by
  intro T hT X
  obtain ⟨fs, hret, hrun, hended, hW, hframe⟩ := X.leave (v := some (.int 1)) (hlocks := hlocks) (fun h => by rw [hr] at h; cases h)
  have hmeth' : T.vm.method? m = some meth := X.method'
  refine ⟨T.setFrames fs, ?_, .returned (some (.int 1)), hrun, hended, rfl, ⟨_, rfl⟩, hW, hframe⟩
  jvm_step X.here [X.here.top, hx, hb, hdg, hmeth', hr, ret, narrow_b1]
  (try refine ⟨rfl, ?_⟩); (try refine ⟨rfl, ?_⟩)
  first | (intro acts; rw [hret _ acts rfl rfl rfl]) | rw [hret _ _ rfl rfl rfl]
  exact Steps.refl _
/-- what holds at the law's entry: the machine, the code, the tables' words (any of lw_tbl by 'hts w (by decide +kernel)'), the script of L ints xs at the cell b, what the Statement gives of the start (any of its parts by flat_of_before) -/
def lw_At (p : Program) (s : State) (m : MethodId) (meth : Method) (c : Code) (b L : Nat) (xs : Nat → Int32) : Prop :=
  p.tables.exec = Jvm.exec ∧ c.code = code ∧ meth.sig.returnType = ret ∧ c.maxLocals = 4 ∧ s.vm.findClass R_law = some m.cls ∧ (∀ w ∈ lw_tbl, w.before #[Value.ref b] s = true) ∧ va_X b L xs s s.heap ∧ b < s.heap.size ∧ meth.locks = false ∧ (Jvm.Cond.and given_1 narrow_1).before #[Value.ref b] s = true
-- ===== YOUR PART BEGINS =====
/-- the heap of the small machine at the law's entry: nothing but the script -/
def m00 (xs : Nat → Int32) : Mem := ((fun _ _ _ => 0, fun _ _ _ => 0, fun _ _ _ => none), (fun _ _ _ => 0, fun _ _ _ => 0, fun _ _ _ => none), (fun _ _ k => xs k, fun _ _ _ => 0, fun _ _ _ => none), fun _ _ => 0)
def kdc (s : State) (b : Nat) : Prop :=
  (∀ i, i < KN.length → (Cond.exactly (.static "NoiseTithe$Kind" (KN.getD i "") "LNoiseTithe$Kind;") "NoiseTithe$Kind").before #[Value.ref b] s = true) ∧
  (∀ q ∈ KFL, ∀ i, i < KN.length → (Cond.eq (.field (.static "NoiseTithe$Kind" (KN.getD i "") "LNoiseTithe$Kind;") q.1 q.2.1 q.2.2.1) (.int (q.2.2.2.getD i 0))).before #[Value.ref b] s = true) ∧
  ∀ i j, i < KN.length → j < KN.length → i ≠ j → (Cond.not (.eq (.static "NoiseTithe$Kind" (KN.getD i "") "LNoiseTithe$Kind;") (.static "NoiseTithe$Kind" (KN.getD j "") "LNoiseTithe$Kind;"))).before #[Value.ref b] s = true ∨ (Cond.not (.eq (.static "NoiseTithe$Kind" (KN.getD j "") "LNoiseTithe$Kind;") (.static "NoiseTithe$Kind" (KN.getD i "") "LNoiseTithe$Kind;"))).before #[Value.ref b] s = true
theorem kdc_ex : (List.range 6).all (fun i => decide ((Cond.exactly (.static "NoiseTithe$Kind" (KN.getD i "") "LNoiseTithe$Kind;") "NoiseTithe$Kind") ∈ flatC (Jvm.Cond.and given_1 narrow_1))) = true := by decide +kernel
theorem kdc_f : KFL.all (fun q => (List.range 6).all (fun i => decide ((Cond.eq (.field (.static "NoiseTithe$Kind" (KN.getD i "") "LNoiseTithe$Kind;") q.1 q.2.1 q.2.2.1) (.int (q.2.2.2.getD i 0))) ∈ flatC (Jvm.Cond.and given_1 narrow_1)))) = true := by decide +kernel
theorem kdc_d : (List.range 6).all (fun i => (List.range 6).all (fun j => decide (i = j) || decide ((Cond.not (.eq (.static "NoiseTithe$Kind" (KN.getD i "") "LNoiseTithe$Kind;") (.static "NoiseTithe$Kind" (KN.getD j "") "LNoiseTithe$Kind;"))) ∈ flatC (Jvm.Cond.and given_1 narrow_1)) || decide ((Cond.not (.eq (.static "NoiseTithe$Kind" (KN.getD j "") "LNoiseTithe$Kind;") (.static "NoiseTithe$Kind" (KN.getD i "") "LNoiseTithe$Kind;"))) ∈ flatC (Jvm.Cond.and given_1 narrow_1)))) = true := by decide +kernel
theorem kdc_of {s : State} {b : Nat} (hgv : (Jvm.Cond.and given_1 narrow_1).before #[Value.ref b] s = true) : kdc s b := by
  have hs := flat_of_before _ hgv
  refine ⟨fun i hi => hs _ (of_decide_eq_true (all_at kdc_ex (List.mem_range.mpr hi))), fun q hq i hi => hs _ (of_decide_eq_true (all_at (all_at kdc_f hq) (List.mem_range.mpr hi))), fun i j hi hj hn => ?_⟩
  have h := all_at (all_at kdc_d (List.mem_range.mpr hi)) (List.mem_range.mpr hj)
  simp only [Bool.or_eq_true, decide_eq_true_eq] at h
  rcases h with (h | h) | h
  · exact absurd h hn
  · exact Or.inl (hs _ h)
  · exact Or.inr (hs _ h)
theorem kls : (List.range 6).all (fun i => decide ((Cond.laysStatic "NoiseTithe$Kind" (KN.getD i "") "LNoiseTithe$Kind;") ∈ lw_tbl)) = true := by decide +kernel
theorem kin : Cond.initialized "NoiseTithe$Kind" ∈ lw_tbl := by decide +kernel
theorem m00_z (xs : Nat → Int32) : (∀ o k, o.1 < 2 → gI (m00 xs) o k = 0) ∧ ∀ o k, o.1 < 2 → gL (m00 xs) o k = 0 := by
  refine ⟨fun o k h => ?_, fun o k h => ?_⟩
  · obtain ⟨s, t, i⟩ := o
    match s, h with
    | 0, _ => rfl
    | 1, _ => rfl
    | n + 2, h => exact absurd h (by show ¬ n + 2 < 2; omega)
  · obtain ⟨s, t, i⟩ := o
    match s with
    | 0 => rfl
    | 1 => rfl
    | n + 2 => rfl
theorem law_ok {L : Nat} (hL : L ≤ 3072) (xs : Nat → Int32) : cW 12 n_L_law [vo 2 0 L] (m00 xs) (fun v _ => v = some (vi 1)) :=
  law_walk hL (m00_z xs).1 (m00_z xs).2 (fun _ _ => rfl)
theorem vaK_of {s : State} {args : Array Value} (hg : ∀ w ∈ gw, w.before args s = true) : ∃ D : va_G, va_K D clsT [] s := by
  have h : ∀ a : Nat, ∃ z : ClassId × (Nat → Nat), a < 8 → u_Kn s (clsN a) (fun k => fT a k) (fN a) z.1 z.2 := by
    intro a
    by_cases ha : a < 8
    · obtain ⟨cC, iS, h⟩ := u_known (N := fN a) (n := fN a) hg (lay_in ha) (hg _ (ins_in ha).1)
      exact ⟨(cC, iS), fun _ => h⟩
    · exact ⟨(default, fun _ => 0), fun h => absurd h ha⟩
  obtain ⟨f, hf⟩ := Classical.axiomOfChoice h
  refine ⟨(fun a => (f a).1, fun a => (f a).2), fun c q hq => ?_, fun k q h => by simp at h⟩
  have hc : c < 8 := (List.getElem?_eq_some_iff.mp hq).1
  have e := (clsT_at hc).symm.trans hq
  cases Option.some.inj e
  exact hf c hc
/-- YOUR PART: from the entry, for every script of at most 3072 ints, the law comes to its end with true -/
theorem whole_start {p : Program} {e : Env} {s : State} {m : MethodId} {below : List Frame} {meth : Method} {c : Code} (l : Launch) (hflags : l.flags = flags0) {b L : Nat} {xs : Nat → Int32} (hL : L ≤ 3072) (C0 : lw_At p s m meth c b L xs) : W p l e room_1 s m #[Value.ref b] below meth c s.heap [] 0 0 (lw_Z below #[Value.ref b] s) (entryFrame m ([Value.ref b] : List Value).toArray 4) := by
  obtain ⟨hx, hb, hr, hml, hown, hts, hX, hbl, hlocks, hgv⟩ := id C0
  have hg : ∀ w ∈ gw, w.before #[Value.ref b] s = true := fun w hw => hts w (List.mem_filter.mp hw).1
  have hn : ∀ w ∈ nw, w.before #[Value.ref b] s = true := fun w hw => hts w (List.mem_filter.mp hw).1
  obtain ⟨D, hK⟩ := vaK_of hg
  obtain ⟨k1, k2, k3⟩ := kdc_of hgv
  obtain ⟨kd, hE⟩ := va_Enof (E := "NoiseTithe$Kind") (d := "LNoiseTithe$Kind;") (nm := KN) (F := KFL) (A := AB s.heap.size) (fun i hi => hts _ (of_decide_eq_true (all_at kls (List.mem_range.mpr hi)))) (hts _ kin) k1 k2 k3 (fun a ha h => Nat.not_le.mpr ha h)
  have X : CTX p s m #[Value.ref b] c code 4 13 s.heap.size b L xs kd D := ⟨hx, hb, hml, hown, hg, hn, hK, Nat.le_refl _, hE, hX, hbl⟩
  have hrow : MT[n_L_law]? = some r_L_law := rfl
  have hC := law_ok hL xs
  unfold cW callT at hC
  rw [hrow] at hC
  obtain ⟨-, hgo⟩ := hC
  let ad : Id3 → Nat := fun o => if o.1 = 0 then kd o.2.2 else b
  have had : ([vo 2 0 L] : List Vv).map (cv ad) = [Value.ref b] := rfl
  have hrel : REL s.heap.size b L xs kd D s ad (m00 xs) s.heap := by
    have hal : ∀ o, ¬ alc (m00 xs) o := fun o h => absurd h.2.2 (Nat.not_lt_zero _)
    refine ⟨fun o h => absurd h (hal o), fun o _ h => absurd h (hal o), fun o k r h => ?_, fun o ho _ k => ?_, fun k => rfl, rfl, fun k => rfl⟩
    · obtain ⟨a, t, i⟩ := o
      rcases a with _ | _ | a <;> exact absurd h (by simp [gR, m00, sd])
    · obtain ⟨a, t, i⟩ := o
      have ha : a = 0 ∨ a = 1 := by simp only at ho; omega
      rcases ha with rfl | rfl <;> exact ⟨rfl, rfl, rfl⟩
  rw [lg_entry_eq, ← had]
  refine go_W (C := callT MT 11) (cap := (450, 8070)) (y := ⟨"NoiseTitheLaw", "law", "([I)Z"⟩) (ret := some .boolean) (rf := 6) (rl := 153) (as := [vo 2 0 L]) (R := room_1) X (snd_all l hbl 11) ⟨Nat.le_of_ble_eq_true rfl, Nat.le_of_ble_eq_true rfl⟩ ⟨Nat.le_of_ble_eq_true rfl, Nat.le_of_ble_eq_true rfl⟩ (fun h => absurd h (by decide)) k_L_law ?_ hgo (Nat.le_of_ble_eq_true rfl) hrel ?_
  · intro pc v m' ad' H locs lsC ls uc us hr2 hKv h1 h2 T
    obtain rfl := hKv
    refine va_forget (fun q hq => T.2.1.2.2 q hq) ?_
    rcases hr2 with ⟨x, hv, hd, -⟩ | ⟨x, hv, -⟩ | ⟨x, hv, -⟩ | ⟨hv, -⟩
    · cases hv
      refine W.widen (k := 600000) (n := 7302250) (Nat.le_trans h1 (Nat.le_of_ble_eq_true rfl)) (Nat.le_trans h2 (Nat.le_of_ble_eq_true rfl)) ?_
      exact lw_ret hx hb hr hlocks hd
    · cases hv
    · cases hv
    · cases hv
  · intro v hv r hr
    simp only [List.mem_singleton] at hv
    subst hv
    cases hr
    exact Or.inr (Or.inr rfl)
-- ===== YOUR PART ENDS =====
set_option maxHeartbeats 4000000 in
theorem lw_walk (l : Launch) (hflags : l.flags = flags0) (b : Addr) (xs : List Int32) : MetFree l x (headSpec (Jvm.Cond.code x code maxLocals ret :: tables_1) room_1) (lw_P b xs) (fun _ _ _ _ _ => True) lw_Q := by
  refine MetFree.of_bodyS (code := code) (maxLocals := maxLocals) (ret := ret) (by decide) ?_ ?_
  · intro args s m h hn
    obtain ⟨meth, c, h1, h2, h3, h4, h5, h6, -, -⟩ := Cond.code_spec hn (atoms_spec (ws := Jvm.Cond.code x code maxLocals ret :: tables_1) h _ List.mem_cons_self)
    exact ⟨meth, c, h1, h2, h3, h4, h5, h6⟩
  · intro p e s m args below meth c s₁ B hml0 hP _
    obtain ⟨rfl, hx, hbd, hgv⟩ := hP
    obtain ⟨scr, harrAt, hlist, hof, hsmall⟩ := hx
    obtain ⟨hcb, hkn, -, -⟩ := State.arrayAt?_spec harrAt
    have hown : s.vm.findClass R_law = some m.cls := findClass_of_methodNamed B.named
    have hts0 : ∀ c ∈ (Jvm.Cond.code x code maxLocals ret :: tables_1), c.before #[Value.ref b] s = true := atoms_spec (ws := Jvm.Cond.code x code maxLocals ret :: tables_1) B.pre
    have hts : ∀ w ∈ lw_tbl, w.before #[Value.ref b] s = true := k2_hts_sels lw_privs (fun w hw => hts0 w (List.mem_cons_of_mem _ hw)) lw_privs_ok
    have hml : c.maxLocals = 4 := B.maxLocals_eq (hts0 _ List.mem_cons_self)
    have X₀ : Stand p l e room_1 s m #[Value.ref b] below meth c s₁ [] 0 0 := Stand.of_body B
    have hh0 : s₁.heap = s.heap := by rw [B.state]; rfl
    have hsz : scr.slots.size = xs.length := by rw [← Array.length_toList, hlist, List.length_map]
    have hval : ∀ j : Nat, j < xs.length → scr.slots[j]? = some (.int (xs.getD j 0)) := fun j hj => by
      rw [← Array.getElem?_toList, hlist]
      simp [hj]
    have hbl : b < s.heap.size := (Array.getElem?_eq_some_iff.mp hcb).1
    have hX : va_X b xs.length (fun j => xs.getD j 0) s s.heap := ⟨scr, hcb, hof, hkn, hsz, hval⟩
    have K : W p l e room_1 s m #[Value.ref b] below meth c s₁.heap [] 0 0 (lw_Z below #[Value.ref b] s) (entryFrame m ([Value.ref b] : List Value).toArray 4) := by
      rw [hh0]
      exact whole_start l hflags hbd ⟨B.exec, B.bytes, B.returns, hml, hown, hts, hX, hbl, B.notSynchronized, hgv⟩
    obtain ⟨t, a1, o, b1, b2, b3⟩ := K s₁ rfl X₀
    exact ⟨t, o, a1, b1, b2, b3⟩
theorem lw_pre_spec {args : Array Value} {s : State} (h : (Jvm.Cond.and given_1 narrow_1).before args s = true) (hr : rest_1_c.before args s = true) : ∃ (b : Addr) (xs : List Int32), lw_P b xs args s := by
  have hs := flat_of_before _ h
  have hq := flat_of_before _ hr
  have hc : (Cond.count 1).before args s = true := hs _ (by decide +kernel)
  have harr : (Cond.arrayOf (.arg 0) .int).before args s = true := hs _ (by decide +kernel)
  have hle : (Cond.le (.length (.arg 0)) (.int 3072)).before args s = true := hs _ (by decide +kernel)
  have hlen : (Cond.isInt (.length (.arg 0))).before args s = true := hq _ (by decide +kernel)
  have hall : (Cond.all (.arg 0) (.isInt (.elem (.arg 0) (.index 0)))).before args s = true := hq _ (by decide +kernel)
  obtain ⟨b, xs, hb, hx⟩ := State.ints_of_pre rfl harr hlen hall
  have hsm : xs.length < 2 ^ 31 := hx.choose_spec.2.2.2
  have hev : (Term.length (.arg 0)).eval args s none [] s = some (.int xs.length.toInt32) := hx.length_eval hb
  have hv := Cond.le_ints hev (show (Term.int 3072).eval args s none [] s = some (.int 3072) from rfl)
  have hd : xs.length.toInt32 ≤ 3072 := by
    simpa [Cond.before, Cond.holds, hv] using hle
  have hN : xs.length ≤ 3072 := (Int32.ofNat_le_ofNat hsm (by decide)).mp (show Int32.ofNat xs.length ≤ Int32.ofNat 3072 from hd)
  exact ⟨b, xs, Cond.one_arg hc (show args[0]? = some (.ref b) from hb), hx, hN, h⟩
theorem lw_comes (l : Launch) (hflags : l.flags = flags0) : Comes l x (Jvm.Cond.code x code maxLocals ret :: tables_1) room_1 (fun tb e args s => Calls_1 tb e args s ∧ rest_1 tb e args s ∧ Pre_1 tb e args s)
    (fun _ _ args s o t => lw_Q args s o t) := by
  intro p e ha hc hk s m args below hf hfit hheap happ hpre
  obtain ⟨b, xs, hP⟩ := lw_pre_spec hpre.2.2 hpre.2.1
  obtain ⟨k, o, h1, h2, h3, hQ⟩ := lw_walk l hflags b xs p e ha hc hk s m args below hf ((Spec.applies_iff_loose hf).mp happ).1 hP trivial
  exact ⟨k, o, h1, h2, h3, hQ⟩
theorem lw_frame {s t : State} {o : Outcome} {args : Array Value} (h : Framed s o t [] 600000 7302250) :
    Framed s o t (fieldLocs frame_1_writes args s ++ arrayLocs frame_1_arrays args s ++ staticLocs frame_1_statics s) 600000 7302250 := h
theorem lw_limb (L : Cond) (hL : ∀ (args : Array Value) (s t : State), L.after args s (.returned (some (.int 1))) t = true) :
    ArmFor flags0 classFile x code maxLocals ret World_1 tables_1 room_1 Calls_1 rest_1 Pre_1
      (fun tb e a s o t => postC L tb e a s o t ∧ Framed s o t (fieldLocs frame_1_writes a s ++ arrayLocs frame_1_arrays a s ++ staticLocs frame_1_statics s) 600000 7302250) := by
  intro l hflags _ _ p e ha hc hk s m args below hf hfit hheap happ hpre
  obtain ⟨k, o, h1, h2, h3, rfl, hF⟩ := lw_comes l hflags p e ha hc hk s m args below hf hfit hheap happ hpre
  exact ⟨k, _, h1, h2, h3, hL args s _, lw_frame hF⟩
theorem i_vc : Claimed_1_1 ∧ Claimed_1_2 := ⟨lw_limb limb_1_1 (fun args s t => by simp [limb_1_1, Cond.after, Cond.holds, Cond.value]), lw_limb limb_1_2 (fun args s t => Cond.after_iff.mpr (by
  first | (rw [show limb_1_2 = Cond.eq .result (.int 1) from rfl, Cond.eq_ints (x := 1) (y := 1) rfl rfl]; simp; done) | (simp [limb_1_2, Cond.value, Term.eval]; done)))⟩
