/-! THE LIBRARY's OWN METHODS, calls, ends. -/
theorem gI_cpI (m : Mem) (src dst : Id3) (sp dp n : Nat) (o' : Id3) (k : Nat) (hd : dst.1 < 2) (ho' : o'.1 < 2 ∨ o'.1 = 2) : gI (cpI m src dst sp dp n) o' k = if o' = dst then va_cpy (gI m src) (gI m dst) sp dp n k else gI m o' k := by
  obtain ⟨a, t, i⟩ := dst
  obtain ⟨a', t', i'⟩ := o'
  have ha : a = 0 ∨ a = 1 := by simp only at hd; omega
  have ha' : a' = 0 ∨ a' = 1 ∨ a' = 2 := by simp only at ho'; omega
  rcases ha with rfl | rfl <;> rcases ha' with rfl | rfl | rfl <;> simp [gI, cpI, sS, sd, Prod.ext_iff]
theorem gL_cpI (m : Mem) (src dst : Id3) (sp dp n : Nat) (o' : Id3) (k : Nat) : gL (cpI m src dst sp dp n) o' k = gL m o' k := by
  obtain ⟨a, t, i⟩ := dst
  obtain ⟨a', t', i'⟩ := o'
  rcases a with _ | _ | a <;> rcases a' with _ | _ | a' <;> rfl
theorem gR_cpI (m : Mem) (src dst : Id3) (sp dp n : Nat) (o' : Id3) (k : Nat) : gR (cpI m src dst sp dp n) o' k = gR m o' k := by
  obtain ⟨a, t, i⟩ := dst
  obtain ⟨a', t', i'⟩ := o'
  rcases a with _ | _ | a <;> rcases a' with _ | _ | a' <;> rfl
theorem cnt_cpI (m : Mem) (src dst : Id3) (sp dp n : Nat) : (cpI m src dst sp dp n).2.2.2 = m.2.2.2 := by
  obtain ⟨a, t', i⟩ := dst
  rcases a with _ | _ | a <;> rfl
section TD
variable {p : Program} {l : Launch} {e : Env} {R : Room} {s : State} {mm : MethodId} {args : Array Value} {below : List Frame} {meth : Method} {c : Code} {Q : State → Prop} {cc : ByteArray} {nL oc B b L : Nat} {xs : Nat → Int32} {kd : Nat → Nat} {D : va_G} {m0 : Mem} {ad0 ad : Id3 → Nat} {pcs : List Nat}
  {C : CT} {cap : Nat × Nat} {K : Option Vv → Mem → Prop} {ls st : List Vv} {m : Mem} {uc us pc nx a : Nat} {H : Heap} {locs : List Loc} {lsC : Array Slot}
theorem cp_row {rest : List Value} (hexec : p.tables.exec = Jvm.exec) (hb : c.code = cc) (hml : c.maxLocals = lsC.size) {own : String} {index : Nat} (hown : s.vm.findClass own = some mm.cls) (hlink : (Cond.methodLink own index arraycopyName).before args s = true) (hnat : (Cond.native arraycopyName).before args s = true) (hstat : (Cond.static arraycopyName).before args s = true) (hini : (Cond.initialized "java/lang/System").before args s = true)
    {a0 a1 : Nat} {c0 c1 : ClassId} {n0 n1 : Nat} {f g : Nat → Int32} (hc0 : H[a0]? = some (arrV c0 n0 (fun j => .int (f j)))) (hc1 : H[a1]? = some (arrV c1 n1 (fun j => .int (g j)))) (hA0 : ArrOfT s c0 .int) (hA1 : ArrOfT s c1 .int)
    {sp dp n : Int32} (h1 : ¬ sp < 0) (h2 : ¬ dp < 0) (h3 : ¬ n < 0) (h4 : sp.toNatClampNeg + n.toNatClampNeg ≤ n0) (h5 : dp.toNatClampNeg + n.toNatClampNeg ≤ n1)
    (hframes : 1 ≤ R.frames) (hlocals : (rest.map fun v => v.category).sum + (nativeFrameWords "java/lang/System" "arraycopy" 5 + 11) ≤ R.locals) (hdg : decode cc pc = .ok (.invokestatic index, 3))
    (kk : ∀ (H1 : Heap) (L1 : List Loc), H1[a1]? = some (arrV c1 n1 (fun j => .int (va_cpy f g sp.toNatClampNeg dp.toNatClampNeg n.toNatClampNeg j))) → H1.size = H.size → (∀ q : Nat, q ≠ a1 → H1[q]? = H[q]?) → (∀ q ∈ L1, q.base = a1) → W p l e R s mm args below meth c H1 (locs ++ L1) uc us Q (F0 mm (pc + 3) lsC rest)) : W p l e R s mm args below meth c H locs uc us Q (F0 mm pc lsC (.int n :: .int dp :: .ref a1 :: .int sp :: .ref a0 :: rest)) := by
  have nn : ∀ z : Int32, ¬ z < 0 → z.toInt = (z.toNatClampNeg : Int) := by
    intro z hz
    have hz0 : (0 : Int) ≤ z.toInt := by
      have := Int32.not_lt.mp hz
      simpa using Int32.le_iff_toInt_le.mp this
    show z.toInt = ((z.toInt.toNat : Nat) : Int)
    omega
  intro T hT X
  obtain ⟨-, k0, hk0, cm0, hkk0⟩ := hA0 n0 (fun j => .int (f j))
  obtain ⟨-, k1, hk1, cm1, hkk1⟩ := hA1 n1 (fun j => .int (g j))
  obtain ⟨vm', X', step⟩ := X.arraycopy hexec hown hlink hnat hstat hini (src := a0) (dst := a1) (cs := arrV c0 n0 (fun j => .int (f j))) (cd := arrV c1 n1 (fun j => .int (g j))) (srcPos := sp) (destPos := dp) (n := n) (by rw [hT]; exact hc0) (by rw [hT]; exact hc1)
    (fun _ h => by cases h) (fun _ h => by cases h) (fun h => by cases h) (fun h => by cases h) hk0 hk1 hkk0 hkk1 (by simp [refKind]) h1 h2 h3
    (by rw [nn sp h1, nn n h3, arrV_size]; omega)
    (by rw [nn dp h2, nn n h3, arrV_size]; omega)
    (fun vm₁ _ i hi => by
      have e : (arrV c0 n0 (fun j => .int (f j))).slots.getD (sp.toNatClampNeg + i) .null = .int (f (sp.toNatClampNeg + i)) := by
        rw [Array.getD_eq_getD_getElem?, arrV_read _ _ (by omega)]
        rfl
      refine ⟨?_, ?_⟩
      · rw [e]
        rfl
      · rw [e]
        exact trivial)
    (g := F0 mm pc lsC (.int n :: .int dp :: .ref a1 :: .int sp :: .ref a0 :: rest)) rfl (by rw [hml]) (rest := rest) rfl (by rw [hb]; exact hdg) hframes (by show 2 * 0 + _ + _ ≤ _; omega)
  have e1 : copied (arrV c0 n0 (fun j => .int (f j))) (arrV c1 n1 (fun j => .int (g j))) sp dp n = arrV c1 n1 (fun j => .int (va_cpy f g sp.toNatClampNeg dp.toNatClampNeg n.toNatClampNeg j)) := va_copied (fun z => .int z) c0 c1 f g h4
  rw [e1] at X' step
  have hl : a1 < H.size := (Array.getElem?_eq_some_iff.mp hc1).1
  have hheap : ((T.setVm vm').setCell a1 (arrV c1 n1 (fun j => .int (va_cpy f g sp.toNatClampNeg dp.toNatClampNeg n.toNatClampNeg j)))).heap = H.setIfInBounds a1 (arrV c1 n1 (fun j => .int (va_cpy f g sp.toNatClampNeg dp.toNatClampNeg n.toNatClampNeg j))) := by rw [← hT]; rfl
  obtain ⟨t, b1, b2⟩ := kk _ _ (by simp [Array.getElem?_setIfInBounds, hl]) (by simp) (fun q hq => by simp [Array.getElem?_setIfInBounds, Ne.symm hq]) (fun q hq => by
    obtain ⟨z, -, hz⟩ := List.mem_map.mp hq
    rw [← hz]) _ hheap X'
  exact ⟨t, step t b1, b2⟩
theorem sx_prm {i : Nat} (X : CTX p s mm args c cc nL oc B b L xs kd D) (hk : prmL.any (fun e => Nat.beq e.1 oc && Nat.beq e.2.1 i && Nat.beq e.2.2.1 a) = true) : (Cond.methodLink (clsN oc) i (prN a)).before args s = true := by
  obtain ⟨⟨oc', i', a', pl⟩, hin, hq⟩ := any_of hk
  simp only [Bool.and_eq_true, Nat.beq_eq] at hq
  obtain ⟨⟨rfl, rfl⟩, rfl⟩ := hq
  have hok := all_at prmL_ok hin
  unfold chkY at hok
  simp only [Bool.and_eq_true] at hok
  exact X.2.2.2.2.1 _ (gw_in hok.1.1)
theorem sx_copy {i : Nat} (X : CTX p s mm args c cc nL oc B b L xs kd D) (hfr : 1 ≤ R.frames) (hlo : 40 ≤ R.locals) (hk : prmL.any (fun e => Nat.beq e.1 oc && Nat.beq e.2.1 i && Nat.beq e.2.2.1 2) = true) (hd : decode cc pc = .ok (.invokestatic i, 3)) (hf : pcs[nx]? = some (pc + 3))
    (hs : stepE C cap (PW p l e R s mm args below meth c Q B b L xs kd D nL m0 ad0 pcs) K (eCpy nx ls st m uc us)) (T : ST B b L xs kd D s nL m0 ad0 ad H locs lsC ls st m) : W p l e R s mm args below meth c H locs uc us Q (F0 mm pc lsC (st.map (cv ad))) := by
  have hw := cpyW_ok
  simp only [Bool.and_eq_true] at hw
  unfold eCpy at hs
  split at hs
  · rename_i n dp d sp o r
    split at hs
    · rename_i hsh
      simp only [Bool.and_eq_true, Nat.beq_eq] at hsh
      obtain ⟨h1, h2, h3⟩ := hsh
      have h3 : ctgs r ≤ 8 := Nat.le_of_ble_eq_true h3
      obtain ⟨⟨q1, q2, q3, q4, q5⟩, g⟩ := hs
      have halo := live_alc (T.tl.tl.tl.tl.hd o rfl) (by omega) (by omega)
      have hald := live_alc (T.tl.tl.hd d rfl) (by omega) (by omega)
      obtain ⟨cA, hA, hc⟩ := (T.cell halo).2.2.1 h1
      obtain ⟨cB, hB, hcB⟩ := (T.cell hald).2.2.1 h2
      have hlw : ((r.map (cv ad)).map fun v => v.category).sum + (nativeFrameWords "java/lang/System" "arraycopy" 5 + 11) ≤ R.locals := by
        rw [cvs_cat, show nativeFrameWords "java/lang/System" "arraycopy" 5 = 7 from by decide]
        omega
      refine cp_row (rest := r.map (cv ad)) X.1 X.2.1 (X.2.2.1.trans T.2.2.1.1.symm) X.2.2.2.1 (sx_prm X hk) (X.2.2.2.2.1 _ (gw_in hw.1.1.1.1)) (X.2.2.2.2.1 _ (gw_in hw.1.1.1.2)) (X.2.2.2.2.1 _ (gw_in hw.1.1.2)) hc hcB hA hB q2 q3 q1 q4 q5 hfr hlw hd fun H1 L1 e1 z oq hL => ?_
      obtain ⟨t1, t2, t3, t4, t5, t6⟩ := T.tl.tl.tl.tl.tl
      have hcnt := cnt_cpI m o d sp.toNatClampNeg dp.toNatClampNeg n.toNatClampNeg
      refine g _ hf ad H1 _ lsC ⟨t1.upd hald hcnt (fun o' k ho' hne => ⟨by rw [gI_cpI _ _ _ _ _ _ _ _ hald.1 ho', if_neg hne], gL_cpI .., gR_cpI ..⟩) (fun o' k y hy => by rw [gR_cpI] at hy; exact t1.2.2.1 o' k y hy) oq ⟨⟨_, e1⟩, fun q => by omega, fun _ => ⟨cB, hB, ?_⟩, fun q => by omega, fun q => by omega⟩, ⟨by rw [z]; exact t2.1, fun q g1 g2 => ?_, fun q hq => ?_⟩, t3, fun v hv => vok_cnt hcnt (t4 v hv), fun v hv => vok_cnt hcnt (t5 v hv), fun x hx => ⟨(alc_cnt hcnt).mpr (t6 x hx).1, (t6 x hx).2⟩⟩
      · rw [e1]
        congr 2
        funext k
        rw [gI_cpI _ _ _ _ _ _ _ _ hald.1 (Or.inl hald.1), if_pos rfl]
      · rw [oq q (fun e => g2 (by rw [e]; exact (t1.1 d hald).1))]
        exact t2.2.1 q g1 g2
      · rcases List.mem_append.mp hq with h | h
        · exact t2.2.2 q h
        · rw [hL q h]
          exact (t1.1 d hald).1
    · exact absurd hs id
  · exact absurd hs id
theorem sx_obj {i : Nat} (X : CTX p s mm args c cc nL oc B b L xs kd D) (hfr : 1 ≤ R.frames) (hlo : 40 ≤ R.locals) (hk : prmL.any (fun e => Nat.beq e.1 oc && Nat.beq e.2.1 i && Nat.beq e.2.2.1 1) = true) (hd : decode cc pc = .ok (.invokespecial i, 3)) (hf : pcs[nx]? = some (pc + 3))
    (hs : stepE C cap (PW p l e R s mm args below meth c Q B b L xs kd D nL m0 ad0 pcs) K (ePrm 1 nx ls st m uc us)) (T : ST B b L xs kd D s nL m0 ad0 ad H locs lsC ls st m) : W p l e R s mm args below meth c H locs uc us Q (F0 mm pc lsC (st.map (cv ad))) := by
  have hw := cpyW_ok
  simp only [Bool.and_eq_true] at hw
  unfold ePrm at hs
  split at hs
  · rename_i o r _
    split at hs
    · rename_i hb
      have h3 : ctgs r ≤ 8 := Nat.le_of_ble_eq_true hb
      have g := hs _ hf ad H locs lsC T.tl
      exact W.objInit X.1 X.2.1 X.2.2.2.1 (sx_prm X hk) (X.2.2.2.2.1 _ (gw_in hw.1.2)) (X.2.2.2.2.1 _ (gw_in hw.2)) rfl (T.2.2.1.1.trans X.2.2.1.symm) rfl hd hfr (by show 2 * 0 + _ + 12 ≤ _; rw [cvs_cat]; omega) g
    · exact absurd hs id
  all_goals first | (rename_i h; exact absurd h (by decide)) | exact absurd hs id | (rename_i h _; exact absurd h (by decide)) | (rename_i h _ _; exact absurd h (by decide))
theorem sx_math {i : Nat} (X : CTX p s mm args c cc nL oc B b L xs kd D) (hcap : uc ≤ R.cells ∧ us ≤ R.slots) (hfr : 1 ≤ R.frames) (hlo : 40 ≤ R.locals) (ha : a = 3 ∨ a = 4 ∨ a = 5) (hk : prmL.any (fun e => Nat.beq e.1 oc && Nat.beq e.2.1 i && Nat.beq e.2.2.1 a) = true) (hd : decode cc pc = .ok (.invokestatic i, 3)) (hf : pcs[nx]? = some (pc + 3))
    (hs : stepE C cap (PW p l e R s mm args below meth c Q B b L xs kd D nL m0 ad0 pcs) K (ePrm a nx ls st m uc us)) (T : ST B b L xs kd D s nL m0 ad0 ad H locs lsC ls st m) : W p l e R s mm args below meth c H locs uc us Q (F0 mm pc lsC (st.map (cv ad))) := by
  have hw := prmW_ok
  simp only [Bool.and_eq_true] at hw
  obtain ⟨⟨⟨⟨⟨⟨v1, v2⟩, v3⟩, v4⟩, v5⟩, v6⟩, v7⟩ := hw
  have hl := sx_prm X hk
  rcases ha with rfl | rfl | rfl
  · rcases st with _ | ⟨(y | _), _ | ⟨(x | _), r⟩⟩ <;> try exact absurd hs id
    have hs : stepE C cap (PW p l e R s mm args below meth c Q B b L xs kd D nL m0 ad0 pcs) K (match Nat.ble (ctgs r) 8 with
      | true => eP (nx, ls, vi (if x < y then y else x) :: r, m, uc, us)
      | false => eN) := hs
    split at hs
    · rename_i hb
      have h3 : ctgs r ≤ 8 := Nat.le_of_ble_eq_true hb
      exact va_mmax X.1 X.2.1 (X.2.2.1.trans T.2.2.1.1.symm) X.2.2.2.1 hl (X.2.2.2.2.1 _ (gw_in v1)) (X.2.2.2.2.1 _ (gw_in v4)) (X.2.2.2.2.1 _ (gw_in v5)) hfr (by rw [cvs_cat]; omega) hcap.1 hcap.2 hd (hs _ hf ad H locs lsC (T.tl.tl.ps vokI))
    · exact absurd hs id
  · rcases st with _ | ⟨(y | _), _ | ⟨(x | _), r⟩⟩ <;> try exact absurd hs id
    have hs : stepE C cap (PW p l e R s mm args below meth c Q B b L xs kd D nL m0 ad0 pcs) K (match Nat.ble (ctgs r) 8 with
      | true => eP (nx, ls, vi (if y < x then y else x) :: r, m, uc, us)
      | false => eN) := hs
    split at hs
    · rename_i hb
      have h3 : ctgs r ≤ 8 := Nat.le_of_ble_eq_true hb
      exact va_mmin X.1 X.2.1 (X.2.2.1.trans T.2.2.1.1.symm) X.2.2.2.1 hl (X.2.2.2.2.1 _ (gw_in v2)) (X.2.2.2.2.1 _ (gw_in v4)) (X.2.2.2.2.1 _ (gw_in v6)) hfr (by rw [cvs_cat]; omega) hcap.1 hcap.2 hd (hs _ hf ad H locs lsC (T.tl.tl.ps vokI))
    · exact absurd hs id
  · rcases st with _ | ⟨(x | _), r⟩ <;> try exact absurd hs id
    have hs : stepE C cap (PW p l e R s mm args below meth c Q B b L xs kd D nL m0 ad0 pcs) K (match Nat.ble (ctgs r) 8 with
      | true => eP (nx, ls, vi (if 0 ≤ x then x else 0 - x) :: r, m, uc, us)
      | false => eN) := hs
    split at hs
    · rename_i hb
      have h3 : ctgs r ≤ 8 := Nat.le_of_ble_eq_true hb
      exact va_mabs X.1 X.2.1 (X.2.2.1.trans T.2.2.1.1.symm) X.2.2.2.1 hl (X.2.2.2.2.1 _ (gw_in v3)) (X.2.2.2.2.1 _ (gw_in v4)) (X.2.2.2.2.1 _ (gw_in v7)) hfr (by rw [cvs_cat]; omega) hcap.1 hcap.2 hd (hs _ hf ad H locs lsC (T.tl.ps vokI))
    · exact absurd hs id
end TD
