/-! WHOLE METHODS. -/
theorem slL_len {ad : Id3 → Nat} : ∀ as : List Vv, (lg_sl (as.map (cv ad))).length = (slL as).length
  | [] => rfl
  | v :: r => by
    have ih := slL_len (ad := ad) r
    unfold lg_sl at ih ⊢
    rw [List.map_cons, List.flatMap_cons, List.length_append, ih, cv_cat]
    rcases v with x | x | x | x
    · show 1 + (slL r).length = (slL r).length + 1; omega
    · show 2 + (slL r).length = (slL r).length + 1 + 1; omega
    · show 1 + (slL r).length = (slL r).length + 1; omega
    · show 1 + (slL r).length = (slL r).length + 1; omega
theorem slL_get {ad : Id3 → Nat} {j j' : Nat} : ∀ (as : List Vv) (k : Nat) (v : Vv), (slL as ++ List.replicate j vu)[k]? = some v → v ≠ vu → (lg_sl (as.map (cv ad)) ++ List.replicate j' Slot.unset)[k]? = some (.val (cv ad v))
  | [], k, v, h, hn => by
    simp only [slL, List.nil_append] at h
    rw [List.getElem?_replicate] at h
    split at h
    · cases h
      exact absurd rfl hn
    · cases h
  | w :: r, k, v, h, hn => by
    have ih := slL_get (ad := ad) (j := j) (j' := j') r
    have e1 : lg_sl ((w :: r).map (cv ad)) = (if ctg w = 2 then [Slot.val (cv ad w), Slot.second] else [Slot.val (cv ad w)]) ++ lg_sl (r.map (cv ad)) := by
      unfold lg_sl
      rw [List.map_cons, List.flatMap_cons, cv_cat]
    rw [e1]
    rcases hw : w with x | x | x | x
    all_goals
      subst hw
      simp only [slL, ctg] at h
      simp only [ctg]
    · rcases k with _ | k
      · simp at h ⊢
        rw [h]
      · simp only [List.cons_append, List.getElem?_cons_succ] at h
        simpa using ih k v h hn
    · rcases k with _ | _ | k
      · simp at h ⊢
        rw [h]
      · simp at h
        exact absurd h.symm hn
      · simp only [List.cons_append, List.getElem?_cons_succ] at h
        simpa using ih k v h hn
    · rcases k with _ | k
      · simp at h ⊢
        rw [h]
      · simp only [List.cons_append, List.getElem?_cons_succ] at h
        simpa using ih k v h hn
    · rcases k with _ | k
      · simp at h
        exact absurd h.symm hn
      · simp only [List.cons_append, List.getElem?_cons_succ] at h
        simpa using ih k v h hn
theorem own_ok : MT.all (fun r => decide ((rNm r).cls = clsN (rOc r))) = true := by decide +kernel
section TG
variable {p : Program} {l : Launch} {e : Env} {R : Room} {s : State} {mm : MethodId} {args : Array Value} {below : List Frame} {meth : Method} {c : Code} {Q : State → Prop} {cc : ByteArray} {nL oc B b L : Nat} {xs : Nat → Int32} {kd : Nat → Nat} {D : va_G} {ad : Id3 → Nat} {pcs : List Nat} {cd : List Ins}
  {C : CT} {cap : Nat × Nat} {K : Option Vv → Mem → Prop} {m : Mem} {as : List Vv}
theorem go_W {y : MethodName} {ret : Option FieldType} {rf rl : Nat} (X : CTX p s mm args c cc nL oc B b L xs kd D) (Snd : SND l B b L xs kd C) (hcap : cap.1 ≤ R.cells ∧ cap.2 ≤ R.slots) (hR : rf ≤ R.frames ∧ rl ≤ R.locals) (hname : y.name = "<init>" → meth.name = "<init>") (hchk : chkR (y, cc, nL, ret, oc, cd, pcs, (rf, rl), cap) = true)
    (hret : ∀ (pc : Nat) (v : Option Vv) (m' : Mem) (ad' : Id3 → Nat) (H : Heap) (locs : List Loc) (lsC : Array Slot) (ls : List Vv) (uc us : Nat), isRet cc ret pc v → K v m' → uc ≤ cap.1 → us ≤ cap.2 → ST B b L xs kd D s nL m ad ad' H locs lsC ls v.toList m' → W p l e R s mm args below meth c H locs uc us Q (F0 mm pc lsC (v.toList.map (cv ad'))))
    (hgo : Go C cd cap K 0 (mkL nL as) [] m 0 0) (hlen : (slL as).length ≤ nL) (hrel : REL B b L xs kd D s ad m s.heap) (hva : ∀ v ∈ as, vok L m v) : W p l e R s mm args below meth c s.heap [] 0 0 Q (F0 mm 0 ((lg_sl (as.map (cv ad)) ++ List.replicate (nL - (lg_sl (as.map (cv ad))).length) Slot.unset).toArray) []) := by
  unfold chkR at hchk
  rw [Bool.and_eq_true] at hchk
  obtain ⟨hh, hall⟩ := hchk
  unfold chkH at hh
  simp only [Bool.and_eq_true, Nat.beq_eq, decide_eq_true_eq] at hh
  obtain ⟨hl1, hp0⟩ := hh
  have key := hgo (PW p l e R s mm args below meth c Q B b L xs kd D nL m ad pcs) (fun ix ls st m' uc us h => by
    intro pc hpc ad' H locs lsC T
    unfold stp at h
    cases hc : cd[ix]? with
    | none => rw [hc] at h; exact absurd h id
    | some ins =>
      rw [hc] at h
      have hz : (ins, pc) ∈ cd.zip pcs := List.mem_of_getElem? (i := ix) (by rw [List.getElem?_zip_eq_some]; exact ⟨hc, hpc⟩)
      have hk := all_at hall hz
      obtain ⟨i, a, b', nx, v, ts⟩ := ins
      unfold chk1 at hk
      dsimp only at hk
      cases hd : decode cc pc with
      | error z => rw [hd] at hk; exact Bool.noConfusion hk
      | ok q =>
        obtain ⟨i', n⟩ := q
        rw [hd] at hk
        dsimp only at hk
        rw [Bool.and_eq_true, decide_eq_true_eq] at hk
        obtain ⟨rfl, hk⟩ := hk
        exact sx_all X Snd hcap hR (fun q => hname (of_decide_eq_true q)) hret hd hk h T)
  have hn : (lg_sl (as.map (cv ad))).length ≤ nL := by rw [slL_len]; exact hlen
  have hent := lv_entry (as.map (cv ad)) hn
  refine key 0 hp0 ad s.heap [] _ ⟨hrel, va_S.rf, ⟨hent.1, hent.2.1, ?_, fun k v hk hv => ?_⟩, fun v hv => ?_, fun v hv => by simp at hv, fun o ho => ⟨ho, rfl⟩⟩
  · unfold mkL
    rw [List.length_append, List.length_replicate]
    omega
  · have := slL_get (ad := ad) (j' := nL - (lg_sl (as.map (cv ad))).length) as k v hk hv
    simpa using this
  · by_cases hvu : v = vu
    · rw [hvu]; exact vokU
    · have hm : ∀ (as : List Vv), v ∈ slL as → v ∈ as := by
        intro as
        induction as with
        | nil => intro h; simp [slL] at h
        | cons w r ih =>
          intro h
          unfold slL at h
          split at h
          · rcases List.mem_cons.mp h with h | h
            · rw [h]; exact List.mem_cons_self
            · rcases List.mem_cons.mp h with h | h
              · exact absurd h hvu
              · exact List.mem_cons_of_mem _ (ih h)
          · rcases List.mem_cons.mp h with h | h
            · rw [h]; exact List.mem_cons_self
            · exact List.mem_cons_of_mem _ (ih h)
      unfold mkL at hv
      rcases List.mem_append.mp hv with h | h
      · exact hva v (hm as h)
      · exact absurd (List.eq_of_mem_replicate h) hvu
end TG
theorem snd_all (l : Launch) {B b L : Nat} {xs : Nat → Int32} {kd : Nat → Nat} (hbB : b < B) : ∀ d : Nat, SND l B b L xs kd (callT MT d)
  | 0 => fun _ _ _ _ _ hC => absurd hC id
  | d + 1 => by
    intro y as m K r hC hmt hoc hpn D ad hva
    have hmem : r ∈ MT := List.mem_of_getElem? hmt
    have hk := ka_all r hmem
    have ho := of_decide_eq_true (all_at own_ok hmem)
    unfold callT at hC
    rw [hmt] at hC
    obtain ⟨nm, cc, nL, ret, oc, cd, pcs, ⟨rf, rl⟩, cap⟩ := r
    obtain ⟨hlen, hgo⟩ := hC
    have hlen : (slL as).length ≤ nL := Nat.le_of_ble_eq_true hlen
    refine Met.ofW (cc := cc) (maxL := nL) (ret := ret) hpn rfl ?_
    intro p e s mm args below meth c s₁ Bd hml hP
    obtain ⟨rfl, hrel, hK, hB, hE, hX, hnw⟩ := hP
    have hts := atoms_spec (ws := wsR (nm, cc, nL, ret, oc, cd, pcs, (rf, rl), cap)) Bd.pre
    have hown : s.vm.findClass (clsN oc) = some mm.cls := by
      have := findClass_of_methodNamed Bd.named
      rw [show nm.cls = clsN oc from ho] at this
      exact this
    have X : CTX p s mm (as.map (cv ad)).toArray c cc nL oc B b L xs kd D := ⟨Bd.exec, Bd.bytes, hml, hown, fun w hw => hts w (List.mem_cons_of_mem _ hw), fun w hw => nw_vm hw rfl (hnw w hw), hK, hB, hE, hX, hbB⟩
    rw [lg_entry_eq]
    refine go_W (R := (headSpec (wsR (nm, cc, nL, ret, oc, cd, pcs, (rf, rl), cap)) (rmR (nm, cc, nL, ret, oc, cd, pcs, (rf, rl), cap))).room) X (snd_all l hbB d) ⟨Nat.le_refl _, Nat.le_refl _⟩ ⟨Nat.le_refl _, Nat.le_refl _⟩ (fun h => (name_of_methodNamed Bd.named Bd.method).1.trans h) hk ?_ hgo hlen hrel hva
    intro pc v m' ad' H locs lsC ls uc us hr hKv h1 h2 T
    refine W.widen h1 h2 ?_
    have hq : ∀ t : State, t.heap = H → s.WarmedH t.vm → QcM B b L xs kd D ad m K (as.map (cv ad)).toArray s (.returned (v.map (cv ad'))) t := fun t ht hW =>
      ⟨⟨v, m', ad', rfl, hKv, by rw [ht]; exact T.1.moved hW.alike, T.2.2.2.2.2, fun w hw => T.2.2.2.2.1 w (by rw [hw]; exact List.mem_cons_self)⟩, T.2.1.F ht⟩
    rcases hr with ⟨x, rfl, hd, hrt⟩ | ⟨x, rfl, hd, hrt⟩ | ⟨x, rfl, hd, hrt⟩ | ⟨rfl, hd, hrt⟩
    · rcases hrt with hrt | ⟨hrt, hx⟩
      · exact W.zret (ty := .int) Bd.exec Bd.bytes (Bd.returns.trans hrt) rfl hq T.2.1.2.2 hd
      · exact W.zret (ty := .boolean) Bd.exec Bd.bytes (Bd.returns.trans hrt) (by rcases hx with rfl | rfl <;> rfl) hq T.2.1.2.2 hd
    · exact W.lret Bd.exec Bd.bytes (Bd.returns.trans hrt) hq T.2.1.2.2 hd
    · exact W.aret (rt := .object "NoiseTithe$Kind") (v := va_rf (x.map ad')) Bd.exec Bd.bytes (Bd.returns.trans hrt) (Or.inl ⟨_, rfl⟩) (by cases x with
        | none => exact Or.inl rfl
        | some x => exact Or.inr ⟨_, rfl⟩) hq T.2.1.2.2 hd
    · exact W.vret Bd.exec Bd.bytes (Bd.returns.trans hrt) hq T.2.1.2.2 hd
