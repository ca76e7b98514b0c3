/-! THE STEPS that write fields and arrays. -/
theorem tyT_ref : ∀ a, a < 8 → ∀ k, k < fN a → tyC (tyT a k) = 2 → (tyT a k).isReference = true := by decide +kernel
theorem tyC_0 {t : FieldType} (h : tyC t = 0) : t = .int := by
  unfold tyC at h
  split at h
  · rfl
  · cases h
  · cases h
theorem tyC_1 {t : FieldType} (h : tyC t = 1) : t = .long := by
  unfold tyC at h
  split at h
  · cases h
  · rfl
  · cases h
theorem ref_narrow {t : FieldType} (h : t.isReference = true) (r : Option Nat) : narrow t (va_rf r) = va_rf r ∧ fits t (va_rf r) = true := by
  cases t <;> first | (exact absurd h (by decide)) | (cases r <;> exact ⟨rfl, rfl⟩)
theorem fvL_set {ad : Id3 → Nat} {m m' : Mem} {a k : Nat} {o : Id3} {v : Value} (h : ∀ j, j ≠ k → fv ad m' a o j = fv ad m a o j) (hk : fv ad m' a o k = v) : fvL ad m' a o = (fvL ad m a o).set k v := by
  refine List.ext_getElem? fun j => ?_
  rw [List.getElem?_set]
  by_cases hj : j < fN a
  · rw [fvL_get hj, fvL_get hj, fvL_len]
    by_cases e : k = j
    · subst e
      rw [if_pos rfl, if_pos hj, hk]
    · rw [if_neg e, h j (fun q => e q.symm)]
  · have h1 : (fvL ad m' a o)[j]? = none := List.getElem?_eq_none (by rw [fvL_len]; omega)
    have h2 : (fvL ad m a o)[j]? = none := List.getElem?_eq_none (by rw [fvL_len]; omega)
    rw [h1, h2, fvL_len]
    by_cases e : k = j
    · rw [if_pos e, if_neg (by omega)]
    · rw [if_neg e]
section SZ
variable {p : Program} {l : Launch} {e : Env} {R : Room} {s : State} {mm : MethodId} {args : Array Value} {below : List Frame} {meth : Method} {c : Code} {Q : State → Prop} {cc : ByteArray} {nL oc B b L : Nat} {xs : Nat → Int32} {kd : Nat → Nat} {D : va_G} {m0 : Mem} {ad0 ad : Id3 → Nat} {pcs : List Nat}
  {C : CT} {cap : Nat × Nat} {K : Option Vv → Mem → Prop} {ls st : List Vv} {m : Mem} {uc us pc nx a : Nat} {H : Heap} {locs : List Loc} {lsC : Array Slot}
/-- behind a write into one cell -/
theorem ST.wr {o : Id3} {m' : Mem} {H1 : Heap} {i : Nat} (T : ST B b L xs kd D s nL m0 ad0 ad H locs lsC ls st m) (ho : alc m o) (hc : m'.2.2.2 = m.2.2.2)
    (hoff : ∀ (o' : Id3) (k : Nat), o'.1 < 2 ∨ o'.1 = 2 → o' ≠ o → gI m' o' k = gI m o' k ∧ gL m' o' k = gL m o' k ∧ gR m' o' k = gR m o' k) (href : ∀ o' k r, gR m' o' k = some r → live L m r)
    (hz : H1.size = H.size) (hH : ∀ q : Nat, q ≠ ad o → H1[q]? = H[q]?) (hcell : okC D s ad m' o H1) : ST B b L xs kd D s nL m0 ad0 ad H1 (locs ++ [⟨ad o, i⟩]) lsC ls st m' := by
  obtain ⟨h1, h2, h3, h4, h5, h6⟩ := T
  exact ⟨h1.upd ho hc hoff href hH hcell, h2.put hz hH (h1.1 o ho).1, h3, fun v hv => vok_cnt hc (h4 v hv), fun v hv => vok_cnt hc (h5 v hv), fun x hx => ⟨(alc_cnt hc).mpr (h6 x hx).1, (h6 x hx).2⟩⟩
theorem put_core (X : CTX p s mm args c cc nL oc B b L xs kd D) {i k pl : Nat} {nest : Bool} (hd : decode cc pc = .ok (.putfield i, 3)) (ha : a < 8) (hkn : k < fN a)
    (hlink : (match nest with
      | true => inNw pl (.fieldLinkNest (clsN oc) i (fT a k).1 (fT a k).2.1 (fT a k).2.2.1 "NoiseTithe")
      | false => inTbl pl (.fieldLink (clsN oc) i (fT a k).1 (fT a k).2.1 (fT a k).2.2.1)) = true)
    (hfin : (fT a k).2.2.2 = false ∨ (meth.name = "<init>" ∧ nest = false ∧ (fT a k).1 = clsN oc)) {o : Id3} {m' : Mem} {r : List Vv} {v : Value} (hsh : sh o = a) (hal : alc m o) (T : ST B b L xs kd D s nL m0 ad0 ad H locs lsC ls r m)
    (hc : m'.2.2.2 = m.2.2.2) (hoff : ∀ (o' : Id3) (k : Nat), o'.1 < 2 ∨ o'.1 = 2 → o' ≠ o → gI m' o' k = gI m o' k ∧ gL m' o' k = gL m o' k ∧ gR m' o' k = gR m o' k) (href : ∀ o' k r, gR m' o' k = some r → live L m r)
    (hoth : ∀ j, j ≠ k → fv ad m' a o j = fv ad m a o j) (hthis : fv ad m' a o k = v) (hn : narrow (tyT a k) v = v) (hfit : fits (tyT a k) v = true)
    (g : ∀ (H1 : Heap) (locs1 : List Loc), ST B b L xs kd D s nL m0 ad0 ad H1 locs1 lsC ls r m' → W p l e R s mm args below meth c H1 locs1 uc us Q (F0 mm (pc + 3) lsC (r.map (cv ad)))) : W p l e R s mm args below meth c H locs uc us Q (F0 mm pc lsC (v :: .ref (ad o) :: r.map (cv ad))) := by
  obtain ⟨hx, hb, hml, hown, hts, hnw, hK, hB, hE, hXs, hbB⟩ := X
  have hcl := clsT_at ha
  have hap := va_apart (own := clsN oc) hts (lay_in ha) (tyT a) (tyT_ok ha) (nmT_ok ha) hK hcl
  have hcell := (T.cell hal).2.1 (by omega)
  rw [hsh] at hcell
  obtain ⟨r0, h1, cell, q1, q2, q3, q4⟩ := hcell
  have hr : r0 = (clsN a, (fun k => fT a k), fN a) := Option.some.inj (h1.symm.trans hcl)
  subst hr
  obtain ⟨hS, hfc, kC, hkC, hkind⟩ := hK.1 a _ hcl
  obtain ⟨cf, kf, fi, f, hi, hsl⟩ := hS k hkn
  have hst := (u_facts hfc hkC (u_lays hts (lay_in ha) hkn) hi).1
  have fin : ∀ H' : Heap, H'[ad o]? = some (cell.setSlot f.slot v) → H'.size = H.size → (∀ q, q ≠ ad o → H'[q]? = H[q]?) → W p l e R s mm args below meth c H' (locs ++ [⟨ad o, f.slot⟩]) uc us Q (F0 mm (pc + 3) lsC (r.map (cv ad))) := by
    intro H' e1 e2 e3
    refine g H' _ (T.wr hal hc hoff href e2 e3 ⟨⟨_, e1⟩, fun _ => ?_, fun q => by omega, fun q => by omega, fun q => by omega⟩)
    rw [hsl] at e1
    rw [hsh, fvL_set hoth hthis]
    exact ⟨_, hcl, t_OB.to (V := updV (vp_V (fvL ad m a o)) k v) ⟨_, e1, q2, q3, t_set q4 hap hkn v⟩ (fun j _ => vp_updV_set (by rw [fvL_len]; exact hkn) v j)⟩
  have hlt : f.slot < cell.slots.size := by rw [hsl]; exact k2_hasslot (q4 k hkn)
  have hlay := hts _ (lay_in ha _ (u_in_lay hkn))
  unfold u_lay at hlay
  by_cases hf : (fT a k).2.2.2 = false
  · rw [if_neg (by rw [hf]; decide)] at hlay
    have h6 := u_store hfc hkC hkind hlay hi (tyT_ok ha k hkn) hn hfit
    cases nest with
    | true => exact va_WputK hx hb hown (hnw _ (nw_in hlink)) hi hst (by rw [q2]; exact h6) q1 q3 hlt rfl rfl hd fin
    | false => exact W.putK hx hb (f := f) ⟨hown, hts _ (gw_in hlink), ⟨_, _, _, hi⟩, hst⟩ (by rw [q2]; exact h6) q1 q3 hlt rfl rfl hd fin
  · have hf1 : (fT a k).2.2.2 = true := by simpa using hf
    obtain ⟨hin2, rfl, hdecl⟩ := hfin.resolve_left hf
    rw [if_pos hf1] at hlay
    have hcf : mm.cls = cf := by
      obtain ⟨_, _, c', _, _, _, -, -, hf', -, -, -, hown2, -⟩ := Cond.laysFinal_spec hlay
      have e1 : c' = cf := by have := hi.symm.trans hf'; simp at this; exact this.1.symm
      rw [hdecl] at hown2
      rw [← e1]; exact Option.some.inj (hown.symm.trans hown2)
    have h6 := u_fits hfc hkC hkind (Or.inr hlay) hi (tyT_ok ha k hkn) hn hfit
    exact W.putFinK hx hb hown (hts _ (gw_in hlink)) hi hst hcf hin2 (by rw [q2]; exact h6) q1 q3 hlt rfl rfl hd fin
theorem sx_putfield (X : CTX p s mm args c cc nL oc B b L xs kd D) {i k : Nat} {ini : Bool} {ty : List Nat} (hini : ini = true → meth.name = "<init>") (hd : decode cc pc = .ok (.putfield i, 3)) (hf : pcs[nx]? = some (pc + 3)) (hk : fldL.any (fun e => Nat.beq e.1 oc && Nat.beq e.2.1 i && Nat.beq e.2.2.1 a && Nat.beq e.2.2.2.1 k && decide (ty = [e.2.2.2.2.1]) && (!(fT a k).2.2.2 || (ini && !e.2.2.2.2.2.2 && decide ((fT a k).1 = clsN oc)))) = true)
    (hs : stepE C cap (PW p l e R s mm args below meth c Q B b L xs kd D nL m0 ad0 pcs) K (ePut a k nx ty ls st m uc us)) (T : ST B b L xs kd D s nL m0 ad0 ad H locs lsC ls st m) : W p l e R s mm args below meth c H locs uc us Q (F0 mm pc lsC (st.map (cv ad))) := by
  obtain ⟨⟨oc', i', a', k', ty', pl, nest⟩, hin, hq⟩ := any_of hk
  simp only [Bool.and_eq_true, Nat.beq_eq, decide_eq_true_eq] at hq
  obtain ⟨⟨⟨⟨⟨rfl, rfl⟩, rfl⟩, rfl⟩, rfl⟩, hfin⟩ := hq
  have hok := all_at fldL_ok hin
  unfold chkF at hok
  simp only [Bool.and_eq_true, Bool.or_eq_true] at hok
  obtain ⟨⟨hlink, hkn⟩, hty⟩ := hok
  have hkn : k' < fN a' := Nat.le_of_ble_eq_true hkn
  have hfin2 : (fT a' k').2.2.2 = false ∨ (meth.name = "<init>" ∧ nest = false ∧ (fT a' k').1 = clsN oc') := by
    simp only [Bool.or_eq_true, Bool.and_eq_true, Bool.not_eq_true', decide_eq_true_eq] at hfin
    rcases hfin with h | ⟨⟨h1, h2⟩, h3⟩
    · exact Or.inl h
    · exact Or.inr ⟨hini h1, h2, h3⟩
  have hT8 : ty' ≤ 2 → a' < 8 ∧ ty' = tyC (tyT a' k') := by
    intro h
    rcases hty with ⟨h1, h2⟩ | ⟨h1, h2⟩
    · exact ⟨Nat.le_of_ble_eq_true h1, Nat.eq_of_beq_eq_true h2⟩
    · have := Nat.eq_of_beq_eq_true h2
      omega
  unfold ePut at hs
  split at hs
  · rename_i ts x o r hte
    cases hte
    split at hs
    · rename_i hsh
      have hsh : sh o = a' := Nat.eq_of_beq_eq_true hsh
      obtain ⟨ha, ht⟩ := hT8 (by omega)
      have hal : alc m o := live_alc (T.tl.hd o rfl) (by omega) (by omega)
      have hti := tyC_0 ht.symm
      refine put_core X hd ha hkn hlink hfin2 hsh hal T.tl.tl (m' := pI m o k' x) (v := .int x) (cnt_pI ..) (fun o' j ho' hne => ⟨by rw [gI_pI _ _ _ _ _ _ hal.1 ho', if_neg (fun q => hne q.1)], gL_pI .., gR_pI ..⟩) (fun o' j r hr => by rw [gR_pI] at hr; exact T.1.2.2.1 o' j r hr) (fun j hj => ?_) ?_ ?_ ?_ (fun H1 locs1 T1 => hs _ hf ad H1 locs1 lsC T1)
      · unfold fv
        rw [gI_pI _ _ _ _ _ _ hal.1 (Or.inl hal.1), if_neg (fun q => hj q.2), gL_pI, gR_pI]
      · unfold fv
        rw [← ht, gI_pI _ _ _ _ _ _ hal.1 (Or.inl hal.1), if_pos ⟨rfl, rfl⟩]
        try rfl
      · rw [hti]; rfl
      · rw [hti]; rfl
    · exact absurd hs id
  · rename_i ts x o r hte
    cases hte
    split at hs
    · rename_i hsh
      have hsh : sh o = a' := Nat.eq_of_beq_eq_true hsh
      obtain ⟨ha, ht⟩ := hT8 (by omega)
      have hal : alc m o := live_alc (T.tl.hd o rfl) (by omega) (by omega)
      have hti := tyC_1 ht.symm
      refine put_core X hd ha hkn hlink hfin2 hsh hal T.tl.tl (m' := pL m o k' x) (v := .long x) (cnt_pL ..) (fun o' j ho' hne => ⟨gI_pL .., by rw [gL_pL _ _ _ _ _ _ hal.1 ho', if_neg (fun q => hne q.1)], gR_pL ..⟩) (fun o' j r hr => by rw [gR_pL] at hr; exact T.1.2.2.1 o' j r hr) (fun j hj => ?_) ?_ ?_ ?_ (fun H1 locs1 T1 => hs _ hf ad H1 locs1 lsC T1)
      · unfold fv
        rw [gL_pL _ _ _ _ _ _ hal.1 (Or.inl hal.1), if_neg (fun q => hj q.2), gI_pL, gR_pL]
      · unfold fv
        rw [← ht, gL_pL _ _ _ _ _ _ hal.1 (Or.inl hal.1), if_pos ⟨rfl, rfl⟩]
        try rfl
      · rw [hti]; rfl
      · rw [hti]; rfl
    · exact absurd hs id
  · rename_i ts x o r hte
    cases hte
    split at hs
    · rename_i hsh
      have hsh : sh o = a' := Nat.eq_of_beq_eq_true hsh
      obtain ⟨ha, ht⟩ := hT8 (by omega)
      have hal : alc m o := live_alc (T.tl.hd o rfl) (by omega) (by omega)
      have hti := tyT_ref a' ha k' hkn ht.symm
      have hxl : ∀ y, x = some y → live L m y := fun y hy => T.hd y (by rw [hy])
      refine put_core X hd ha hkn hlink hfin2 hsh hal T.tl.tl (m' := pR m o k' x) (v := va_rf (x.map ad)) (cnt_pR ..) (fun o' j ho' hne => ⟨gI_pR .., gL_pR .., by rw [gR_pR _ _ _ _ _ _ hal.1 ho', if_neg (fun q => hne q.1)]⟩) (fun o' j r hr => ?_) (fun j hj => ?_) ?_ (ref_narrow hti _).1 (ref_narrow hti _).2 (fun H1 locs1 T1 => hs _ hf ad H1 locs1 lsC T1)
      · obtain ⟨a1, a2, a3⟩ := o'
        by_cases hb : a1 < 2 ∨ a1 = 2
        · rw [gR_pR _ _ _ _ _ _ hal.1 hb] at hr
          split at hr
          · exact hxl r hr
          · exact T.1.2.2.1 _ j r hr
        · have e1 : gR (pR m o k' x) (a1, a2, a3) j = gR (pR m o k' x) (2, a2, a3) j := by
            rcases a1 with _ | _ | a1
            · omega
            · omega
            · rfl
          rw [e1, gR_pR _ _ _ _ _ _ hal.1 (Or.inr rfl)] at hr
          split at hr
          · exact hxl r hr
          · exact T.1.2.2.1 _ j r hr
      · unfold fv
        rw [gR_pR _ _ _ _ _ _ hal.1 (Or.inl hal.1), if_neg (fun q => hj q.2), gI_pR, gL_pR]
      · unfold fv
        rw [← ht, gR_pR _ _ _ _ _ _ hal.1 (Or.inl hal.1), if_pos ⟨rfl, rfl⟩]
        try rfl
    · exact absurd hs id
  · exact absurd hs id
end SZ
