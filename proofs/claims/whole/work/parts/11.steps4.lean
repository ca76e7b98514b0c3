/-! THE STEPS over arrays, and the small ones left. -/
theorem arv_rd {cA : ClassId} {N : Nat} {f : Nat → Value} {j : Nat} (h : j < N) : (arrV cA N f).slots[j]? = some (f j) := arrV_read _ _ h
theorem ref_of {a : Nat} (h : 22 ≤ a) (h2 : a ≤ 26) : (elT a).isReference = true := by
  rcases (show a = 22 ∨ a = 23 ∨ a = 24 ∨ a = 25 ∨ a = 26 by omega) with rfl | rfl | rfl | rfl | rfl <;> rfl
section TA
variable {p : Program} {l : Launch} {e : Env} {R : Room} {s : State} {mm : MethodId} {args : Array Value} {below : List Frame} {meth : Method} {c : Code} {Q : State → Prop} {cc : ByteArray} {nL oc B b L : Nat} {xs : Nat → Int32} {kd : Nat → Nat} {D : va_G} {m0 : Mem} {ad0 ad : Id3 → Nat} {pcs : List Nat}
  {C : CT} {cap : Nat × Nat} {K : Option Vv → Mem → Prop} {ls st : List Vv} {m : Mem} {uc us pc nx a : Nat} {H : Heap} {locs : List Loc} {lsC : Array Slot}
theorem sx_iaload (X : CTX p s mm args c cc nL oc B b L xs kd D) (hd : decode cc pc = .ok (.iaload, 1)) (hf : pcs[nx]? = some (pc + 1))
    (hs : stepE C cap (PW p l e R s mm args below meth c Q B b L xs kd D nL m0 ad0 pcs) K (eIald nx ls st m uc us)) (T : ST B b L xs kd D s nL m0 ad0 ad H locs lsC ls st m) : W p l e R s mm args below meth c H locs uc us Q (F0 mm pc lsC (st.map (cv ad))) := by
  unfold eIald at hs
  split at hs
  · rename_i j o r
    split at hs
    · rename_i hsh
      simp only [Bool.or_eq_true, Nat.beq_eq] at hsh
      have g := hs.2 _ hf ad H locs lsC (T.tl.tl.ps vokI)
      have hlt : j.toNatClampNeg < ln o := Nat.not_le.mp fun q => hs.1 (Or.inr q)
      have hlv : live L m o := T.tl.hd o rfl
      rcases hsh with h20 | h30
      · have hal := live_alc hlv (by omega) (by omega)
        obtain ⟨cA, hA, hc⟩ := (T.cell hal).2.2.1 h20
        exact W.iald (v := .int (gI m o j.toNatClampNeg)) X.1 X.2.1 hc (hA _ _) (fun q => by cases q) (by rw [arrV_size]; exact hs.1) (arv_rd hlt) rfl rfl hd g
      · have ho := live_scr hlv h30
        subst ho
        have hb : ad (2, 0, L) = b := T.1.2.2.2.2.2.1
        have hX := X.2.2.2.2.2.2.2.2.2.1
        have hbl : b < s.heap.size := Nat.lt_of_lt_of_le X.2.2.2.2.2.2.2.2.2.2 X.2.2.2.2.2.2.2.1
        rw [List.map_cons] at g
        have hv : cv ad (vi (gI m (2, 0, L) j.toNatClampNeg)) = .int (xs j.toNatClampNeg) := congrArg Value.int (T.1.2.2.2.2.2.2 _)
        rw [hv] at g
        have hin : vp_in j L := hs.1
        show W p l e R s mm args below meth c H locs uc us Q (F0 mm pc lsC (.int j :: .ref (ad (2, 0, L)) :: r.map (cv ad)))
        rw [hb]
        exact va_sld X.1 X.2.1 hX hbl (fun q : B ≤ b => absurd X.2.2.2.2.2.2.2.2.2.2 (Nat.not_lt.mpr q)) T.2.1 hin hd g
    · exact absurd hs id
  · exact absurd hs id
theorem sx_baload (X : CTX p s mm args c cc nL oc B b L xs kd D) (hd : decode cc pc = .ok (.baload, 1)) (hf : pcs[nx]? = some (pc + 1))
    (hs : stepE C cap (PW p l e R s mm args below meth c Q B b L xs kd D nL m0 ad0 pcs) K (eZald nx ls st m uc us)) (T : ST B b L xs kd D s nL m0 ad0 ad H locs lsC ls st m) : W p l e R s mm args below meth c H locs uc us Q (F0 mm pc lsC (st.map (cv ad))) := by
  unfold eZald at hs
  split at hs
  · rename_i j o r
    split at hs
    · rename_i hsh
      simp only [Nat.beq_eq] at hsh
      have g := hs.2 _ hf ad H locs lsC (T.tl.tl.ps vokI)
      have hlt : j.toNatClampNeg < ln o := Nat.not_le.mp fun q => hs.1 (Or.inr q)
      have hal := live_alc (T.tl.hd o rfl) (by omega) (by omega)
      obtain ⟨cA, hA, hc⟩ := (T.cell hal).2.2.2.1 hsh
      exact W.zald (v := .int (gI m o j.toNatClampNeg)) X.1 X.2.1 hc (hA _ _) (fun q => by cases q) (by rw [arrV_size]; exact hs.1) (arv_rd hlt) rfl rfl hd g
    · exact absurd hs id
  · exact absurd hs id
theorem sx_aaload (X : CTX p s mm args c cc nL oc B b L xs kd D) (hd : decode cc pc = .ok (.aaload, 1)) (hf : pcs[nx]? = some (pc + 1))
    (hs : stepE C cap (PW p l e R s mm args below meth c Q B b L xs kd D nL m0 ad0 pcs) K (eAald nx ls st m uc us)) (T : ST B b L xs kd D s nL m0 ad0 ad H locs lsC ls st m) : W p l e R s mm args below meth c H locs uc us Q (F0 mm pc lsC (st.map (cv ad))) := by
  unfold eAald at hs
  split at hs
  · rename_i j o r
    split at hs
    · rename_i hsh
      simp only [Bool.and_eq_true] at hsh
      have h22 : 22 ≤ sh o := Nat.le_of_ble_eq_true hsh.1
      have h26 : sh o ≤ 26 := Nat.le_of_ble_eq_true hsh.2
      have g := hs.2 _ hf ad H locs lsC (T.tl.tl.ps (fun r hr => T.1.2.2.1 o _ r (Sum.inl.inj (Sum.inr.inj (Sum.inr.inj hr)))))
      have hlt : j.toNatClampNeg < ln o := Nat.not_le.mp fun q => hs.1 (Or.inr q)
      have hal := live_alc (T.tl.hd o rfl) (by omega) (by omega)
      obtain ⟨cA, hA, hA2, hc⟩ := (T.cell hal).2.2.2.2 h22 h26
      exact W.aald (v := va_rf ((gR m o j.toNatClampNeg).map ad)) (ty := elT (sh o)) X.1 X.2.1 hc (hA _ _) (ref_of h22 h26) (fun q => by cases q) (by rw [arrV_size]; exact hs.1) (arv_rd hlt) rfl rfl hd g
    · exact absurd hs id
  · exact absurd hs id
theorem sx_iastore (X : CTX p s mm args c cc nL oc B b L xs kd D) (hd : decode cc pc = .ok (.iastore, 1)) (hf : pcs[nx]? = some (pc + 1))
    (hs : stepE C cap (PW p l e R s mm args below meth c Q B b L xs kd D nL m0 ad0 pcs) K (eIast nx ls st m uc us)) (T : ST B b L xs kd D s nL m0 ad0 ad H locs lsC ls st m) : W p l e R s mm args below meth c H locs uc us Q (F0 mm pc lsC (st.map (cv ad))) := by
  unfold eIast at hs
  split at hs
  · rename_i x j o r
    split at hs
    · rename_i hsh
      simp only [Nat.beq_eq] at hsh
      have hal := live_alc (T.tl.tl.hd o rfl) (by omega) (by omega)
      obtain ⟨cA, hA, hc⟩ := (T.cell hal).2.2.1 hsh
      refine W.iast X.1 X.2.1 hc (hA _ _) (fun q => by cases q) (by rw [arrV_size]; exact hs.1) rfl rfl hd fun H1 e1 z oq => ?_
      refine hs.2 _ hf ad H1 _ lsC (T.tl.tl.tl.wr hal (cnt_pI ..) (fun o' k ho' hne => ⟨by rw [gI_pI _ _ _ _ _ _ hal.1 ho', if_neg (fun q => hne q.1)], gL_pI .., gR_pI ..⟩) (fun o' k r hr => by rw [gR_pI] at hr; exact T.1.2.2.1 o' k r hr) z oq ⟨⟨_, e1⟩, fun q => by omega, fun _ => ⟨cA, hA, ?_⟩, fun q => by omega, fun q => by omega⟩)
      rw [e1, arrV_store]
      congr 2
      funext k
      unfold updV
      rw [gI_pI _ _ _ _ _ _ hal.1 (Or.inl hal.1)]
      by_cases hk : k = j.toNatClampNeg
      · rw [if_pos hk, if_pos ⟨rfl, hk⟩]
      · rw [if_neg hk, if_neg (fun q => hk q.2)]
    · exact absurd hs id
  · exact absurd hs id
theorem sx_bastore (X : CTX p s mm args c cc nL oc B b L xs kd D) (hd : decode cc pc = .ok (.bastore, 1)) (hf : pcs[nx]? = some (pc + 1))
    (hs : stepE C cap (PW p l e R s mm args below meth c Q B b L xs kd D nL m0 ad0 pcs) K (eZast nx ls st m uc us)) (T : ST B b L xs kd D s nL m0 ad0 ad H locs lsC ls st m) : W p l e R s mm args below meth c H locs uc us Q (F0 mm pc lsC (st.map (cv ad))) := by
  unfold eZast at hs
  split at hs
  · rename_i x j o r
    split at hs
    · rename_i hsh
      simp only [Nat.beq_eq] at hsh
      have hal := live_alc (T.tl.tl.hd o rfl) (by omega) (by omega)
      obtain ⟨cA, hA, hc⟩ := (T.cell hal).2.2.2.1 hsh
      have hnar : narrow .boolean (.int x) = .int x := by rcases hs.1.2 with rfl | rfl <;> rfl
      refine W.zast X.1 X.2.1 hc (hA _ _) (fun q => by cases q) (by rw [arrV_size]; exact hs.1.1) rfl rfl hd fun H1 e1 z oq => ?_
      rw [hnar] at e1
      refine hs.2 _ hf ad H1 _ lsC (T.tl.tl.tl.wr hal (cnt_pI ..) (fun o' k ho' hne => ⟨by rw [gI_pI _ _ _ _ _ _ hal.1 ho', if_neg (fun q => hne q.1)], gL_pI .., gR_pI ..⟩) (fun o' k r hr => by rw [gR_pI] at hr; exact T.1.2.2.1 o' k r hr) z oq ⟨⟨_, e1⟩, fun q => by omega, fun q => by omega, fun _ => ⟨cA, hA, ?_⟩, fun q => by omega⟩)
      rw [e1, arrV_store]
      congr 2
      funext k
      unfold updV
      rw [gI_pI _ _ _ _ _ _ hal.1 (Or.inl hal.1)]
      by_cases hk : k = j.toNatClampNeg
      · rw [if_pos hk, if_pos ⟨rfl, hk⟩]
      · rw [if_neg hk, if_neg (fun q => hk q.2)]
    · exact absurd hs id
  · exact absurd hs id
theorem gR_pR_all {m : Mem} {o : Id3} {k : Nat} {x : Option Id3} {o' : Id3} {j : Nat} {y : Id3} {P : Id3 → Prop} (ho : o.1 < 2) (hr : gR (pR m o k x) o' j = some y) (h1 : x = some y → P y) (h2 : ∀ o'' j', gR m o'' j' = some y → P y) : P y := by
  obtain ⟨a1, a2, a3⟩ := o'
  by_cases hb : a1 < 2 ∨ a1 = 2
  · rw [gR_pR _ _ _ _ _ _ ho hb] at hr
    split at hr
    · exact h1 hr
    · exact h2 _ _ hr
  · have e1 : gR (pR m o k x) (a1, a2, a3) j = gR (pR m o k x) (2, a2, a3) j := by
      rcases a1 with _ | _ | a1
      · omega
      · omega
      · rfl
    rw [e1, gR_pR _ _ _ _ _ _ ho (Or.inr rfl)] at hr
    split at hr
    · exact h1 hr
    · exact h2 _ _ hr
theorem sx_aastore (X : CTX p s mm args c cc nL oc B b L xs kd D) (hd : decode cc pc = .ok (.aastore, 1)) (hf : pcs[nx]? = some (pc + 1))
    (hs : stepE C cap (PW p l e R s mm args below meth c Q B b L xs kd D nL m0 ad0 pcs) K (eAast nx ls st m uc us)) (T : ST B b L xs kd D s nL m0 ad0 ad H locs lsC ls st m) : W p l e R s mm args below meth c H locs uc us Q (F0 mm pc lsC (st.map (cv ad))) := by
  unfold eAast at hs
  split at hs
  · rename_i x j o r
    split at hs
    · rename_i hsh
      simp only [Nat.beq_eq] at hsh
      have hlx : live L m x := T.hd x rfl
      have hlo : live L m o := T.tl.tl.hd o rfl
      have hel : sh o = 22 ∨ sh o = 23 ∨ sh o = 24 ∨ sh o = 25 := by
        by_cases h : sh o = 22 ∨ sh o = 23 ∨ sh o = 24 ∨ sh o = 25
        · exact h
        · have h98 : sh x = 98 := by
            rw [hsh]
            unfold elS
            split <;> first | (exfalso; omega) | rfl
          exfalso
          obtain ⟨xa, xt, xi⟩ := x
          unfold sh at h98
          split at h98
          · unfold sh0 at h98
            split at h98 <;> exact absurd h98 (by decide)
          · unfold sh1 at h98
            split at h98 <;> exact absurd h98 (by decide)
          · exact absurd h98 (by decide)
      have hax : sh x < 8 := by
        rw [hsh]
        rcases hel with h | h | h | h <;> rw [h] <;> decide
      have hty : elT (sh o) = .object (clsN (sh x)) := by
        rw [hsh]
        rcases hel with h | h | h | h <;> rw [h] <;> rfl
      have halo := live_alc hlo (by omega) (by omega)
      have halx := live_alc hlx (by omega) (by omega)
      obtain ⟨cA, hA, hA2, hc⟩ := (T.cell halo).2.2.2.2 (by omega) (by omega)
      rw [hty] at hA hA2
      obtain ⟨r', hr', cellV, g1, g2, g3, -⟩ := (T.cell halx).2.1 hax
      have hr0 : r' = (clsN (sh x), (fun k => fT (sh x) k), fN (sh x)) := Option.some.inj (hr'.symm.trans (clsT_at hax))
      subst hr0
      have hcls := (X.2.2.2.2.2.2.1.1 _ _ (clsT_at hax)).2
      have hA3 := hA2
      obtain ⟨kA, comp, k1, k2, k3, -⟩ := hA2
      have hcomp : comp = D.1 (sh x) := Option.some.inj (k3.symm.trans hcls.1)
      subst hcomp
      obtain ⟨kC, hkC, -⟩ := hcls.2
      have h0 : ¬ j < 0 := fun q => hs.1 (Or.inl q)
      have hlt : j.toNatClampNeg < ln o := Nat.not_le.mp fun q => hs.1 (Or.inr q)
      refine W.aast X.1 X.2.1 hc (fun q h => by cases h) (fun h => by cases h) k1 k2 rfl hkC ⟨h0, by rw [arrV_size]; exact hlt⟩ g1 (fun q h => by rw [g3] at h; cases h) (by rw [g2]; exact hkC) (by rw [g2]; exact va_assign hcls) rfl rfl hd fun H1 e1 z oq => ?_
      refine hs.2 _ hf ad H1 _ lsC (T.tl.tl.tl.wr halo (cnt_pR ..) (fun o' k ho' hne => ⟨gI_pR .., gL_pR .., by rw [gR_pR _ _ _ _ _ _ halo.1 ho', if_neg (fun q => hne q.1)]⟩) (fun o' k y hr => gR_pR_all halo.1 hr (fun q => by cases q; exact hlx) (fun o'' j' q => T.1.2.2.1 o'' j' y q)) z oq ⟨⟨_, e1⟩, fun q => by omega, fun q => by omega, fun q => by omega, fun _ _ => ⟨cA, by rw [hty]; exact hA, by rw [hty]; exact hA3, ?_⟩⟩)
      rw [e1, arrV_store]
      congr 2
      funext k
      unfold updV
      rw [gR_pR _ _ _ _ _ _ halo.1 (Or.inl halo.1)]
      by_cases hk : k = j.toNatClampNeg
      · rw [if_pos hk, if_pos ⟨rfl, hk⟩]; rfl
      · rw [if_neg hk, if_neg (fun q => hk q.2)]
    · exact absurd hs id
  · exact absurd hs id
theorem sx_arraylength (X : CTX p s mm args c cc nL oc B b L xs kd D) (hd : decode cc pc = .ok (.arraylength, 1)) (hf : pcs[nx]? = some (pc + 1))
    (hs : stepE C cap (PW p l e R s mm args below meth c Q B b L xs kd D nL m0 ad0 pcs) K (eLen nx ls st m uc us)) (T : ST B b L xs kd D s nL m0 ad0 ad H locs lsC ls st m) : W p l e R s mm args below meth c H locs uc us Q (F0 mm pc lsC (st.map (cv ad))) := by
  unfold eLen at hs
  split at hs
  · rename_i o r
    split at hs
    · rename_i hsh
      simp only [Bool.and_eq_true] at hsh
      have h20 : 20 ≤ sh o := Nat.le_of_ble_eq_true hsh.1
      have h30 : sh o ≤ 30 := Nat.le_of_ble_eq_true hsh.2
      have g := hs _ hf ad H locs lsC (T.tl.ps vokI)
      have hlv : live L m o := T.hd o rfl
      have fin : ∀ {cA : ClassId} {f : Nat → Value} {ty : FieldType}, ArrOfT s cA ty → H[ad o]? = some (arrV cA (ln o) f) → W p l e R s mm args below meth c H locs uc us Q (F0 mm pc lsC (.ref (ad o) :: r.map (cv ad))) := by
        intro cA f ty hA hc
        exact W.alen X.1 X.2.1 hc (hA _ _) (n := nI (ln o)) (by rw [arrV_size]; rfl) rfl rfl hd g
      by_cases hs30 : sh o = 30
      · have ho := live_scr hlv hs30
        subst ho
        have hb : ad (2, 0, L) = b := T.1.2.2.2.2.2.1
        have hX := X.2.2.2.2.2.2.2.2.2.1
        have hbl : b < s.heap.size := Nat.lt_of_lt_of_le X.2.2.2.2.2.2.2.2.2.2 X.2.2.2.2.2.2.2.1
        show W p l e R s mm args below meth c H locs uc us Q (F0 mm pc lsC (.ref (ad (2, 0, L)) :: r.map (cv ad)))
        rw [hb]
        exact va_slen X.1 X.2.1 hX hbl (fun q : B ≤ b => absurd X.2.2.2.2.2.2.2.2.2.2 (Nat.not_lt.mpr q)) T.2.1 hd g
      · have hal := live_alc hlv (by omega) hs30
        by_cases h1 : sh o = 20
        · obtain ⟨cA, hA, hc⟩ := (T.cell hal).2.2.1 h1
          exact fin hA hc
        · by_cases h2 : sh o = 21
          · obtain ⟨cA, hA, hc⟩ := (T.cell hal).2.2.2.1 h2
            exact fin hA hc
          · have h26 : sh o ≤ 26 := by
              obtain ⟨oa, ot, oi⟩ := o
              have := hal.1
              dsimp only at this
              rcases (show oa = 0 ∨ oa = 1 by omega) with rfl | rfl
              · show sh0 ot ≤ 26
                have hh : sh0 ot ≤ 30 := h30
                unfold sh0 at hh ⊢
                split at hh <;> first | decide | (exact absurd hh (by decide))
              · show sh1 ot ≤ 26
                unfold sh1
                split <;> decide
            obtain ⟨cA, hA, hA2, hc⟩ := (T.cell hal).2.2.2.2 (by omega) h26
            exact fin hA hc
    · exact absurd hs id
  · exact absurd hs id
theorem sx_dup (X : CTX p s mm args c cc nL oc B b L xs kd D) (hd : decode cc pc = .ok (.dup, 1)) (hf : pcs[nx]? = some (pc + 1))
    (hs : stepE C cap (PW p l e R s mm args below meth c Q B b L xs kd D nL m0 ad0 pcs) K (eDup nx ls st m uc us)) (T : ST B b L xs kd D s nL m0 ad0 ad H locs lsC ls st m) : W p l e R s mm args below meth c H locs uc us Q (F0 mm pc lsC (st.map (cv ad))) := by
  unfold eDup at hs
  split at hs
  · rename_i v r
    split at hs
    · rename_i hc
      exact lv_dup X.1 X.2.1 hd (by rw [cv_cat]; exact hc) (hs _ hf ad H locs lsC (T.ps T.hd))
    · exact absurd hs id
  · exact absurd hs id
theorem sx_pop (X : CTX p s mm args c cc nL oc B b L xs kd D) (hd : decode cc pc = .ok (.pop, 1)) (hf : pcs[nx]? = some (pc + 1))
    (hs : stepE C cap (PW p l e R s mm args below meth c Q B b L xs kd D nL m0 ad0 pcs) K (ePop nx ls st m uc us)) (T : ST B b L xs kd D s nL m0 ad0 ad H locs lsC ls st m) : W p l e R s mm args below meth c H locs uc us Q (F0 mm pc lsC (st.map (cv ad))) := by
  unfold ePop at hs
  split at hs
  · rename_i v r
    split at hs
    · rename_i hc
      exact lv_pop X.1 X.2.1 hd (by rw [cv_cat]; exact hc) (hs _ hf ad H locs lsC T.tl)
    · exact absurd hs id
  · exact absurd hs id
theorem sx_dup2 (X : CTX p s mm args c cc nL oc B b L xs kd D) (hd : decode cc pc = .ok (.dup2, 1)) (hf : pcs[nx]? = some (pc + 1))
    (hs : stepE C cap (PW p l e R s mm args below meth c Q B b L xs kd D nL m0 ad0 pcs) K (eDup2 nx ls st m uc us)) (T : ST B b L xs kd D s nL m0 ad0 ad H locs lsC ls st m) : W p l e R s mm args below meth c H locs uc us Q (F0 mm pc lsC (st.map (cv ad))) := by
  unfold eDup2 at hs
  split at hs
  · rename_i v w r
    split at hs
    · rename_i h1 h2
      exact lv_dup2_11 X.1 X.2.1 hd (by rw [cv_cat]; exact h1) (by rw [cv_cat]; exact h2) (hs _ hf ad H locs lsC ((T.ps T.tl.hd).ps T.hd))
    · exact absurd hs id
  · exact absurd hs id
theorem sx_ifnull (X : CTX p s mm args c cc nL oc B b L xs kd D) {off : Int} {tgt : Nat} (ht : (pc : Int) + off = (tgt : Int)) (hj : pcs[a]? = some tgt) (hd : decode cc pc = .ok (.ifnull off, 3)) (hf : pcs[nx]? = some (pc + 3))
    (hs : stepE C cap (PW p l e R s mm args below meth c Q B b L xs kd D nL m0 ad0 pcs) K (eNu ls a nx st m uc us)) (T : ST B b L xs kd D s nL m0 ad0 ad H locs lsC ls st m) : W p l e R s mm args below meth c H locs uc us Q (F0 mm pc lsC (st.map (cv ad))) := by
  unfold eNu at hs
  split at hs
  · exact lv_ifnullN X.1 X.2.1 hd ht (hs _ hj ad H locs lsC T.tl)
  · exact lv_ifnull X.1 X.2.1 hd (hs _ hf ad H locs lsC T.tl)
  · exact absurd hs id
theorem sx_ifnonnull (X : CTX p s mm args c cc nL oc B b L xs kd D) {off : Int} {tgt : Nat} (ht : (pc : Int) + off = (tgt : Int)) (hj : pcs[a]? = some tgt) (hd : decode cc pc = .ok (.ifnonnull off, 3)) (hf : pcs[nx]? = some (pc + 3))
    (hs : stepE C cap (PW p l e R s mm args below meth c Q B b L xs kd D nL m0 ad0 pcs) K (eNu ls nx a st m uc us)) (T : ST B b L xs kd D s nL m0 ad0 ad H locs lsC ls st m) : W p l e R s mm args below meth c H locs uc us Q (F0 mm pc lsC (st.map (cv ad))) := by
  unfold eNu at hs
  split at hs
  · exact lv_ifnonnullN X.1 X.2.1 hd (hs _ hf ad H locs lsC T.tl)
  · exact lv_ifnonnull X.1 X.2.1 hd ht (hs _ hj ad H locs lsC T.tl)
  · exact absurd hs id
theorem kd_inj (X : CTX p s mm args c cc nL oc B b L xs kd D) {x y : Id3} (T : ST B b L xs kd D s nL m0 ad0 ad H locs lsC ls st m) (hx : live L m x) (hy : live L m y) (h1 : sh x = 8) (h2 : sh y = 8) : some (ad x) = some (ad y) ↔ x = y := by
  refine ⟨fun h => ?_, fun h => by rw [h]⟩
  have h := Option.some.inj h
  obtain ⟨a1, a2, a3⟩ := live_kind hx h1
  obtain ⟨b1, b2, b3⟩ := live_kind hy h2
  obtain ⟨xa, xt, xi⟩ := x
  obtain ⟨ya, yt, yi⟩ := y
  dsimp only at a1 a2 a3 b1 b2 b3
  subst a1; subst a2; subst b1; subst b2
  rw [T.1.2.2.2.2.1, T.1.2.2.2.2.1] at h
  have := X.2.2.2.2.2.2.2.2.1.2 xi yi a3 b3 h
  rw [this]
theorem sx_acmp_eq (X : CTX p s mm args c cc nL oc B b L xs kd D) {off : Int} {tgt : Nat} (ht : (pc : Int) + off = (tgt : Int)) (hj : pcs[a]? = some tgt) (hd : decode cc pc = .ok (.if_acmp .eq off, 3)) (hf : pcs[nx]? = some (pc + 3))
    (hs : stepE C cap (PW p l e R s mm args below meth c Q B b L xs kd D nL m0 ad0 pcs) K (eAc ls a nx st m uc us)) (T : ST B b L xs kd D s nL m0 ad0 ad H locs lsC ls st m) : W p l e R s mm args below meth c H locs uc us Q (F0 mm pc lsC (st.map (cv ad))) := by
  unfold eAc at hs
  split at hs
  · rename_i y x r
    split at hs
    · rename_i hsh
      simp only [Bool.and_eq_true, Nat.beq_eq] at hsh
      have hi := kd_inj X T (T.tl.hd x rfl) (T.hd y rfl) hsh.1 hsh.2
      have e1 : (some x = some y) ↔ x = y := ⟨fun h => Option.some.inj h, fun h => by rw [h]⟩
      exact lv_acmp_eq (rx := some (ad x)) (ry := some (ad y)) X.1 X.2.1 hd ht (fun q => hs.1 (hi.mp q) _ hj ad H locs lsC T.tl.tl) (fun q => hs.2 (fun z => q (hi.mpr z)) _ hf ad H locs lsC T.tl.tl)
    · exact absurd hs id
  · exact absurd hs id
theorem sx_acmp_ne (X : CTX p s mm args c cc nL oc B b L xs kd D) {off : Int} {tgt : Nat} (ht : (pc : Int) + off = (tgt : Int)) (hj : pcs[a]? = some tgt) (hd : decode cc pc = .ok (.if_acmp .ne off, 3)) (hf : pcs[nx]? = some (pc + 3))
    (hs : stepE C cap (PW p l e R s mm args below meth c Q B b L xs kd D nL m0 ad0 pcs) K (eAc ls nx a st m uc us)) (T : ST B b L xs kd D s nL m0 ad0 ad H locs lsC ls st m) : W p l e R s mm args below meth c H locs uc us Q (F0 mm pc lsC (st.map (cv ad))) := by
  unfold eAc at hs
  split at hs
  · rename_i y x r
    split at hs
    · rename_i hsh
      simp only [Bool.and_eq_true, Nat.beq_eq] at hsh
      have hi := kd_inj X T (T.tl.hd x rfl) (T.hd y rfl) hsh.1 hsh.2
      exact lv_acmp_ne (rx := some (ad x)) (ry := some (ad y)) X.1 X.2.1 hd ht (fun q => hs.2 (fun z => q (hi.mpr z)) _ hj ad H locs lsC T.tl.tl) (fun q => hs.1 (hi.mp q) _ hf ad H locs lsC T.tl.tl)
    · exact absurd hs id
  · exact absurd hs id
end TA
