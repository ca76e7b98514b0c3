/-! THE STEPS that make cells; constants, switches, the library's own. -/
theorem ln_le {o : Id3} (h : o.1 < 2) : ln o ≤ 1740 := by
  obtain ⟨a, t, i⟩ := o
  have h : a < 2 := h
  rcases (show a = 0 ∨ a = 1 by omega) with rfl | rfl
  · show ln0 t i ≤ 1740
    unfold ln0
    split <;> first | decide | (split <;> decide)
  · show ln1 t ≤ 1740
    unfold ln1
    split <;> decide
theorem default_ref {t : FieldType} (h : t.isReference = true) : defaultValue t = .null := by
  cases t <;> first | (exact absurd h (by decide)) | rfl
theorem kN_at {k : Nat} (h : k < 6) : KN.getD k "" = kN k := by
  rcases (show k = 0 ∨ k = 1 ∨ k = 2 ∨ k = 3 ∨ k = 4 ∨ k = 5 by omega) with rfl | rfl | rfl | rfl | rfl | rfl <;> rfl
section TB
variable {p : Program} {l : Launch} {e : Env} {R : Room} {s : State} {mm : MethodId} {args : Array Value} {below : List Frame} {meth : Method} {c : Code} {Q : State → Prop} {cc : ByteArray} {nL oc B b L : Nat} {xs : Nat → Int32} {kd : Nat → Nat} {D : va_G} {m0 : Mem} {ad0 ad : Id3 → Nat} {pcs : List Nat}
  {C : CT} {cap : Nat × Nat} {K : Option Vv → Mem → Prop} {ls st : List Vv} {m : Mem} {uc us pc nx a : Nat} {H : Heap} {locs : List Loc} {lsC : Array Slot}
theorem sx_con (X : CTX p s mm args c cc nL oc B b L xs kd D) {i : Nat} {v : Vv} (hk : conL.any (fun e => Nat.beq e.1 oc && Nat.beq e.2.1 i && decide (e.2.2.1 = v)) = true) : (∀ x, v = .inl x → (Jvm.Cond.constant (clsN oc) i x).before args s = true) ∧ (∀ x, v = .inr (.inl x) → (Jvm.Cond.constantLong (clsN oc) i x).before args s = true) := by
  obtain ⟨⟨oc', i', v', pl⟩, hin, hq⟩ := any_of hk
  simp only [Bool.and_eq_true, Nat.beq_eq, decide_eq_true_eq] at hq
  obtain ⟨⟨rfl, rfl⟩, rfl⟩ := hq
  have hok := all_at conL_ok hin
  refine ⟨fun x hx => ?_, fun x hx => ?_⟩
  · subst hx
    exact X.2.2.2.2.1 _ (gw_in hok)
  · subst hx
    exact X.2.2.2.2.1 _ (gw_in hok)
theorem sx_ldc (X : CTX p s mm args c cc nL oc B b L xs kd D) {i : Nat} {x : Int32} (hk : conL.any (fun e => Nat.beq e.1 oc && Nat.beq e.2.1 i && decide (e.2.2.1 = vi x)) = true) (hd : decode cc pc = .ok (.ldc i, 2)) (hf : pcs[nx]? = some (pc + 2))
    (hs : stepE C cap (PW p l e R s mm args below meth c Q B b L xs kd D nL m0 ad0 pcs) K (eP (nx, ls, vi x :: st, m, uc, us))) (T : ST B b L xs kd D s nL m0 ad0 ad H locs lsC ls st m) : W p l e R s mm args below meth c H locs uc us Q (F0 mm pc lsC (st.map (cv ad))) :=
  lv_ldc X.1 X.2.1 X.2.2.2.1 ((sx_con X hk).1 x rfl) hd (hs _ hf ad H locs lsC (T.ps vokI))
theorem sx_ldcw (X : CTX p s mm args c cc nL oc B b L xs kd D) {i : Nat} {x : Int32} (hk : conL.any (fun e => Nat.beq e.1 oc && Nat.beq e.2.1 i && decide (e.2.2.1 = vi x)) = true) (hd : decode cc pc = .ok (.ldc_w i, 3)) (hf : pcs[nx]? = some (pc + 3))
    (hs : stepE C cap (PW p l e R s mm args below meth c Q B b L xs kd D nL m0 ad0 pcs) K (eP (nx, ls, vi x :: st, m, uc, us))) (T : ST B b L xs kd D s nL m0 ad0 ad H locs lsC ls st m) : W p l e R s mm args below meth c H locs uc us Q (F0 mm pc lsC (st.map (cv ad))) :=
  lv_ldcw X.1 X.2.1 X.2.2.2.1 ((sx_con X hk).1 x rfl) hd (hs _ hf ad H locs lsC (T.ps vokI))
theorem sx_ldc2 (X : CTX p s mm args c cc nL oc B b L xs kd D) {i : Nat} {x : Int64} (hk : conL.any (fun e => Nat.beq e.1 oc && Nat.beq e.2.1 i && decide (e.2.2.1 = vl x)) = true) (hd : decode cc pc = .ok (.ldc2_w i, 3)) (hf : pcs[nx]? = some (pc + 3))
    (hs : stepE C cap (PW p l e R s mm args below meth c Q B b L xs kd D nL m0 ad0 pcs) K (eP (nx, ls, vl x :: st, m, uc, us))) (T : ST B b L xs kd D s nL m0 ad0 ad H locs lsC ls st m) : W p l e R s mm args below meth c H locs uc us Q (F0 mm pc lsC (st.map (cv ad))) :=
  lv_ldc2 X.1 X.2.1 X.2.2.2.1 ((sx_con X hk).2 x rfl) hd (hs _ hf ad H locs lsC (T.ps vokL))
theorem sx_getstatic (X : CTX p s mm args c cc nL oc B b L xs kd D) {i : Nat} (hk : staL.any (fun e => Nat.beq e.1 oc && Nat.beq e.2.1 i && Nat.beq e.2.2.1 a) = true) (hd : decode cc pc = .ok (.getstatic i, 3)) (hf : pcs[nx]? = some (pc + 3))
    (hs : stepE C cap (PW p l e R s mm args below meth c Q B b L xs kd D nL m0 ad0 pcs) K (eP (nx, ls, vo 0 20 a :: st, m, uc, us))) (T : ST B b L xs kd D s nL m0 ad0 ad H locs lsC ls st m) : W p l e R s mm args below meth c H locs uc us Q (F0 mm pc lsC (st.map (cv ad))) := by
  obtain ⟨⟨oc', i', a', pl⟩, hin, hq⟩ := any_of hk
  simp only [Bool.and_eq_true, Nat.beq_eq] at hq
  obtain ⟨⟨rfl, rfl⟩, rfl⟩ := hq
  have hok := all_at staL_ok hin
  unfold chkS at hok
  simp only [Bool.and_eq_true] at hok
  have h6 : a' < 6 := Nat.le_of_ble_eq_true hok.2
  have hlv : live L m (0, 20, a') := Or.inr (Or.inl ⟨rfl, rfl, h6⟩)
  have g := hs _ hf ad H locs lsC (T.ps (fun r hr => by cases hr; exact hlv))
  rw [List.map_cons] at g
  have hv : cv ad (vo 0 20 a') = .ref (kd a') := congrArg Value.ref (T.1.2.2.2.2.1 a')
  rw [hv] at g
  have hZ := (X.2.2.2.2.2.2.2.2.1.1 a' h6).1
  rw [kN_at h6] at hZ
  exact va_gets X.1 X.2.1 hZ T.2.1 X.2.2.2.1 (X.2.2.2.2.1 _ (gw_in hok.1)) (fun _ h9 => h9) hd g
theorem foS_at {P : PT} : ∀ {l : List (Prop × St)} {q : Prop} {s : St}, foS P l → (q, s) ∈ l → q → P s.1 s.2.1 s.2.2.1 s.2.2.2.1 s.2.2.2.2.1 s.2.2.2.2.2
  | (q', s') :: r, q, s, h, hm, hq => by
    rcases List.mem_cons.mp hm with e | e
    · cases e
      exact h.1 hq
    · exact foS_at h.2 e hq
theorem eSw_at {x : Int32} {ls st : List Vv} {m : Mem} {uc us : Nat} : ∀ {ts : List Nat} {n j t : Nat}, ts[j]? = some t → (x = nI (n + j), (t, ls, st, m, uc, us)) ∈ eSw x n ts ls st m uc us
  | t' :: r, n, 0, t, h => by
    simp only [List.getElem?_cons_zero, Option.some.injEq] at h
    subst h
    exact List.mem_cons_self
  | t' :: r, n, j + 1, t, h => by
    simp only [List.getElem?_cons_succ] at h
    have := eSw_at (x := x) (ls := ls) (st := st) (m := m) (uc := uc) (us := us) (n := n + 1) h
    rw [show n + 1 + j = n + (j + 1) by omega] at this
    exact List.mem_cons_of_mem _ this
theorem jmp_of {pcs : List Nat} {a pc : Nat} {off : Int} (h : jmp pcs a pc off = true) : ∃ q : Nat, pcs[a]? = some q ∧ (pc : Int) + off = (q : Int) := by
  unfold jmp at h
  split at h
  · rename_i q hq
    exact ⟨q, hq, of_decide_eq_true h⟩
  · cases h
theorem sx_table (X : CTX p s mm args c cc nL oc B b L xs kd D) {b' n : Nat} {d lo hi : Int} {offs : Array Int} {ts : List Nat} (hd : decode cc pc = .ok (.tableswitch d lo hi offs, n)) (h1 : jmp pcs a pc d = true) (h2 : lo = (b' : Int)) (h3 : hi + 1 = (b' : Int) + ts.length) (h4 : offs.size = ts.length) (h5 : (ts.zip offs.toList).all (fun e => jmp pcs e.1 pc e.2) = true) (h6 : b' + ts.length < 1000)
    (hs : stepE C cap (PW p l e R s mm args below meth c Q B b L xs kd D nL m0 ad0 pcs) K (eTab a b' ts ls st m uc us)) (T : ST B b L xs kd D s nL m0 ad0 ad H locs lsC ls st m) : W p l e R s mm args below meth c H locs uc us Q (F0 mm pc lsC (st.map (cv ad))) := by
  unfold eTab at hs
  split at hs
  · rename_i x r
    have hs : foS (PW p l e R s mm args below meth c Q B b L xs kd D nL m0 ad0 pcs) ((x < nI b' ∨ nI (b' + ts.length) ≤ x, a, ls, r, m, uc, us) :: eSw x b' ts ls r m uc us) := hs
    by_cases ho : x < nI b' ∨ nI (b' + ts.length) ≤ x
    · obtain ⟨q, hq, ht⟩ := jmp_of h1
      refine lv_tableOut X.1 X.2.1 hd ?_ ht (hs.1 ho _ hq ad H locs lsC T.tl)
      rw [Int32.lt_iff_toInt_lt, Int32.le_iff_toInt_le, nI_toInt (by omega), nI_toInt (by omega)] at ho
      rw [h2]
      rcases ho with g | g
      · exact Or.inl g
      · right
        have : ((b' + ts.length : Nat) : Int) = (b' : Int) + ts.length := Int.natCast_add ..
        omega
    · rw [Int32.lt_iff_toInt_lt, Int32.le_iff_toInt_le, nI_toInt (by omega), nI_toInt (by omega)] at ho
      have hlo : (b' : Int) ≤ x.toInt := by omega
      have hhi : x.toInt < (b' : Int) + ts.length := by
        have : ((b' + ts.length : Nat) : Int) = (b' : Int) + ts.length := Int.natCast_add ..
        omega
      obtain ⟨j, hj⟩ : ∃ j : Nat, x.toInt = (b' : Int) + j := ⟨(x.toInt - b').toNat, by omega⟩
      have hjl : j < ts.length := by omega
      have hx : x = nI (b' + j) := Int32.toInt_inj.mp (by rw [nI_toInt (by omega), hj, Int.natCast_add])
      have hto : offs.toList[j]? = some (offs.toList[j]'(by rw [Array.length_toList]; omega)) := List.getElem?_eq_getElem _
      have htt : ts[j]? = some (ts[j]'hjl) := List.getElem?_eq_getElem _
      generalize hv : offs.toList[j]'(by rw [Array.length_toList]; omega) = off at hto
      generalize hw : ts[j]'hjl = t at htt
      have hz : (t, off) ∈ ts.zip offs.toList := List.mem_of_getElem? (i := j) (by rw [List.getElem?_zip_eq_some]; exact ⟨htt, hto⟩)
      obtain ⟨q, hq, ht⟩ := jmp_of (all_at h5 hz)
      refine lv_tableIn X.1 X.2.1 hd (off := off) (by rw [h2]; omega) (by omega) ?_ ht (foS_at hs (List.mem_cons_of_mem _ (eSw_at htt)) hx _ hq ad H locs lsC T.tl)
      rw [h2, hj, show ((b' : Int) + (j : Int) - (b' : Int)).toNat = j by omega, ← Array.getElem?_toList]
      exact hto
  · exact absurd hs id
/-- behind the making of a cell -/
theorem ST.new {t sd' : Nat} {H1 : Heap} (X : CTX p s mm args c cc nL oc B b L xs kd D) (T : ST B b L xs kd D s nL m0 ad0 ad H locs lsC ls st m) (hs : sd' < 2) (ht : ¬ (sd' = 0 ∧ t = 20)) (hz : H1.size = H.size + 1) (hH : ∀ q : Nat, q < H.size → H1[q]? = H[q]?)
    (hcell : ∀ ad' : Id3 → Nat, ad' (sd', t, m.2.2.2 sd' t) = H.size → okC D s ad' (al m sd' t 1) (sd', t, m.2.2.2 sd' t) H1) :
    ∃ ad' : Id3 → Nat, ad' (sd', t, m.2.2.2 sd' t) = H.size ∧ ST B b L xs kd D s nL m0 ad0 ad' H1 locs lsC ls (vo sd' t (m.2.2.2 sd' t) :: st) (al m sd' t 1) ∧ st.map (cv ad') = st.map (cv ad) := by
  obtain ⟨h1, h2, h3, h4, h5, h6⟩ := T
  have hB : B ≤ H.size := Nat.le_trans X.2.2.2.2.2.2.2.1 h2.1
  refine ⟨fun x => if x = (sd', t, m.2.2.2 sd' t) then H.size else ad x, if_pos rfl, ?_, ?_⟩
  · obtain ⟨g1, g2⟩ := h1.new (ad' := fun x => if x = (sd', t, m.2.2.2 sd' t) then H.size else ad x) hs ht (fun x hx => if_neg hx) (if_pos rfl) hB hH (hcell _ (if_pos rfl))
    refine ⟨g1, ⟨by rw [hz]; exact Nat.le_succ_of_le h2.1, fun q q1 q2 => (hH q (Nat.lt_of_lt_of_le q1 h2.1)).trans (h2.2.1 q q1 q2), h2.2.2⟩, h3.ext g2 h4, fun v hv => vok_al (h4 v hv), fun v hv => ?_, fun o ho => ⟨alc_al (h6 o ho).1, (g2 o (Or.inl (h6 o ho).1)).trans (h6 o ho).2⟩⟩
    rcases List.mem_cons.mp hv with rfl | hv
    · intro r hr
      cases hr
      exact Or.inl (al_new hs ht ⟨rfl, rfl, Nat.le_refl _, Nat.lt_succ_self _⟩)
    · exact vok_al (h5 v hv)
  · have hn : ∀ x, live L m x → (fun x => if x = (sd', t, m.2.2.2 sd' t) then H.size else ad x) x = ad x := by
      intro x hx
      refine if_neg fun e => ?_
      subst e
      rcases hx with g | ⟨g1, g2, -⟩ | g
      · exact absurd g.2.2 (Nat.lt_irrefl _)
      · exact ht ⟨g1, g2⟩
      · have : sd' = 2 := congrArg Prod.fst g
        omega
    exact cvs_ext hn h5
theorem fresh0 (T : ST B b L xs kd D s nL m0 ad0 ad H locs lsC ls st m) {sd' t : Nat} (hs : sd' < 2) (k : Nat) : gI m (sd', t, m.2.2.2 sd' t) k = 0 ∧ gL m (sd', t, m.2.2.2 sd' t) k = 0 ∧ gR m (sd', t, m.2.2.2 sd' t) k = none :=
  T.1.2.2.2.1 _ hs (fun q => absurd q.2.2 (Nat.lt_irrefl _)) k
theorem okTag_of {a b : Nat} (h : okTag a b = true) : a < 2 ∧ ¬ (a = 0 ∧ b = 20) := by
  unfold okTag at h
  simp only [Bool.and_eq_true, Bool.not_eq_true', Bool.and_eq_false_iff] at h
  refine ⟨Nat.le_of_ble_eq_true h.1, fun q => ?_⟩
  rcases h.2 with g | g
  · rw [q.1] at g; cases g
  · rw [q.2] at g; cases g
theorem sx_new (X : CTX p s mm args c cc nL oc B b L xs kd D) {i t : Nat} {ts : List Nat} (hcap : cap.1 ≤ R.cells ∧ cap.2 ≤ R.slots) (hk : newL.any (fun e => Nat.beq e.1 oc && Nat.beq e.2.1 i && Nat.beq e.2.2.1 (sh (a, t, 0))) = true) (htag : okTag a t = true) (hts : ts = [fN (sh (a, t, 0))]) (hd : decode cc pc = .ok (.new i, 3)) (hf : pcs[nx]? = some (pc + 3))
    (hs : stepE C cap (PW p l e R s mm args below meth c Q B b L xs kd D nL m0 ad0 pcs) K (eNew cap a t nx (ts.getD 0 0) ls st m uc us)) (T : ST B b L xs kd D s nL m0 ad0 ad H locs lsC ls st m) : W p l e R s mm args below meth c H locs uc us Q (F0 mm pc lsC (st.map (cv ad))) := by
  obtain ⟨⟨oc', i', a', pl⟩, hin, hq⟩ := any_of hk
  simp only [Bool.and_eq_true, Nat.beq_eq] at hq
  obtain ⟨⟨rfl, rfl⟩, hq⟩ := hq
  have hok := all_at newL_ok hin
  unfold chkN at hok
  simp only [Bool.and_eq_true] at hok
  have h8 : a' < 8 := Nat.le_of_ble_eq_true hok.2
  obtain ⟨hs2, ht⟩ := okTag_of htag
  have hq : a' = sh (a, t, 0) := hq
  have hsh : sh (a, t, m.2.2.2 a t) = a' := by rw [hq]; exact sh_tag
  have hcl := clsT_at h8
  have hKn := X.2.2.2.2.2.2.1.1 _ _ hcl
  unfold eNew at hs
  subst hts
  have hn : ([fN (sh (a, t, 0))].getD 0 0) = fN a' := by rw [hq]; rfl
  rw [hn] at hs
  obtain ⟨⟨hs1, hs3⟩, hs4⟩ := hs
  refine W.newcK X.1 X.2.1 X.2.2.2.1 (X.2.2.2.2.1 _ (gw_in hok.1)) (X.2.2.2.2.1 _ (ins_in h8).1) (X.2.2.2.2.1 _ (ins_in h8).2) rfl hd (Nat.le_trans hs1 hcap.1) (Nat.le_trans hs3 hcap.2) hKn.2.1 rfl fun H1 kC hkC e1 z1 o1 => ?_
  obtain ⟨ad', w1, w2, w3⟩ := T.new (H1 := H1) X hs2 ht z1 o1 (fun ad' h9 => ⟨⟨_, by rw [h9]; exact e1⟩, fun _ => by
    rw [hsh]
    refine ⟨_, hcl, ?_⟩
    show t_OB (ad' (a, t, m.2.2.2 a t)) (D.1 a') (fN a') (D.2 a') H1 (vp_V (fvL ad' (al m a t 1) a' (a, t, m.2.2.2 a t)))
    rw [h9]
    refine (u_born (tyT a') X.2.2.2.2.1 (lay_in h8) hKn hkC e1 (tyT_ok h8)).to fun j hj => ?_
    unfold vp_V
    rw [List.getD_eq_getElem?_getD, fvL_get hj]
    show defaultValue (tyT a' j) = fv ad' (al m a t 1) a' (a, t, m.2.2.2 a t) j
    obtain ⟨f1, f2, f3⟩ := fresh0 T (t := t) hs2 j
    have h3 : tyC (tyT a' j) ≤ 2 := by unfold tyC; split <;> omega
    unfold fv
    rw [gI_al, gL_al, gR_al, f1, f2, f3]
    rcases (show tyC (tyT a' j) = 0 ∨ tyC (tyT a' j) = 1 ∨ tyC (tyT a' j) = 2 by omega) with h | h | h
    · rw [h, tyC_0 h]; rfl
    · rw [h, tyC_1 h]; rfl
    · rw [h, default_ref (tyT_ref _ h8 _ hj h)]; rfl, fun q => by omega, fun q => by omega, fun q => by omega⟩)
  have g := hs4 _ hf ad' H1 locs lsC w2
  rw [List.map_cons, w3] at g
  have hv : cv ad' (vo a t (m.2.2.2 a t)) = .ref H.size := congrArg Value.ref w1
  rw [hv] at g
  exact g
theorem sx_newarray (X : CTX p s mm args c cc nL oc B b L xs kd D) {t : Nat} {ty : ArrayType} (hcap : cap.1 ≤ R.cells ∧ cap.2 ≤ R.slots) (htag : okTag a t = true) (hty : (ty = .int ∧ sh (a, t, 0) = 20) ∨ (ty = .boolean ∧ sh (a, t, 0) = 21)) (hd : decode cc pc = .ok (.newarray ty, 2)) (hf : pcs[nx]? = some (pc + 2))
    (hs : stepE C cap (PW p l e R s mm args below meth c Q B b L xs kd D nL m0 ad0 pcs) K (eArr cap a t nx ls st m uc us)) (T : ST B b L xs kd D s nL m0 ad0 ad H locs lsC ls st m) : W p l e R s mm args below meth c H locs uc us Q (F0 mm pc lsC (st.map (cv ad))) := by
  obtain ⟨hs2, ht⟩ := okTag_of htag
  have hw := mulA_ok
  simp only [Bool.and_eq_true] at hw
  unfold eArr at hs
  split at hs
  · rename_i n r
    obtain ⟨⟨hn, hs1, hs3⟩, hs4⟩ := hs
    have hle : ln (a, t, m.2.2.2 a t) ≤ 1740 := ln_le hs2
    have hneg : ¬ n < 0 := by rw [hn]; exact nI_pos (by omega)
    have hcl : n.toNatClampNeg = ln (a, t, m.2.2.2 a t) := by rw [hn]; exact nI_clamp (by omega)
    have harr : (Cond.arrayClass (newarray.typeOf ty)).before args s = true := by
      rcases hty with ⟨rfl, -⟩ | ⟨rfl, -⟩
      · exact X.2.2.2.2.1 _ (gw_in hw.1.2)
      · exact X.2.2.2.2.1 _ (gw_in hw.2)
    refine W.newaK X.1 X.2.1 harr rfl hd rfl hneg hcl (by rcases hty with ⟨rfl, -⟩ | ⟨rfl, -⟩ <;> simp only [newarray.typeOf, componentBytes] <;> omega) (Nat.le_trans hs1 hcap.1) (Nat.le_trans hs3 hcap.2) rfl fun H1 cA e1 z1 o1 hAr => ?_
    obtain ⟨ad', w1, w2, w3⟩ := T.tl.new (H1 := H1) X hs2 ht z1 o1 (fun ad' h9 => by
      have hsh : sh (a, t, m.2.2.2 a t) = sh (a, t, 0) := sh_tag
      have hc0 : H1[ad' (a, t, m.2.2.2 a t)]? = some (arrV cA (ln (a, t, m.2.2.2 a t)) (fun k => .int (gI (al m a t 1) (a, t, m.2.2.2 a t) k))) := by
        rw [h9, e1]
        congr 2
        funext k
        rw [gI_al, (fresh0 T (t := t) hs2 k).1]
        rcases hty with ⟨rfl, -⟩ | ⟨rfl, -⟩ <;> rfl
      rcases hty with ⟨rfl, hx⟩ | ⟨rfl, hx⟩
      · exact ⟨⟨_, hc0⟩, fun q => by omega, fun q => ⟨cA, hAr, hc0⟩, fun q => by omega, fun q => by omega⟩
      · exact ⟨⟨_, hc0⟩, fun q => by omega, fun q => by omega, fun q => ⟨cA, hAr, hc0⟩, fun q => by omega⟩)
    have g := hs4 _ hf ad' H1 locs lsC w2
    rw [List.map_cons, w3] at g
    have hv : cv ad' (vo a t (m.2.2.2 a t)) = .ref H.size := congrArg Value.ref w1
    rw [hv] at g
    exact g
  · exact absurd hs id
theorem sx_anewarray (X : CTX p s mm args c cc nL oc B b L xs kd D) {i t : Nat} (hcap : cap.1 ≤ R.cells ∧ cap.2 ≤ R.slots) (hk : arrL.any (fun e => Nat.beq e.1 oc && Nat.beq e.2.1 i && Nat.beq e.2.2.1 (sh (a, t, 0))) = true) (htag : okTag a t = true) (hd : decode cc pc = .ok (.anewarray i, 3)) (hf : pcs[nx]? = some (pc + 3))
    (hs : stepE C cap (PW p l e R s mm args below meth c Q B b L xs kd D nL m0 ad0 pcs) K (eArr cap a t nx ls st m uc us)) (T : ST B b L xs kd D s nL m0 ad0 ad H locs lsC ls st m) : W p l e R s mm args below meth c H locs uc us Q (F0 mm pc lsC (st.map (cv ad))) := by
  obtain ⟨⟨oc', i', a', pl, ql⟩, hin, hq⟩ := any_of hk
  simp only [Bool.and_eq_true, Nat.beq_eq] at hq
  obtain ⟨⟨rfl, rfl⟩, hq⟩ := hq
  have hok := all_at arrL_ok hin
  unfold chkA at hok
  simp only [Bool.and_eq_true] at hok
  obtain ⟨⟨⟨hl1, hl2⟩, h22⟩, h25⟩ := hok
  have h22 : 22 ≤ a' := Nat.le_of_ble_eq_true h22
  have h25 : a' ≤ 25 := Nat.le_of_ble_eq_true h25
  obtain ⟨hs2, ht⟩ := okTag_of htag
  have hq : a' = sh (a, t, 0) := hq
  have hsh : sh (a, t, m.2.2.2 a t) = a' := by rw [hq]; exact sh_tag
  have hel : elT a' = .object (clsN (elS a')) := by
    rcases (show a' = 22 ∨ a' = 23 ∨ a' = 24 ∨ a' = 25 by omega) with h | h | h | h <;> rw [h] <;> rfl
  unfold eArr at hs
  split at hs
  · rename_i n r
    obtain ⟨⟨hn, hs1, hs3⟩, hs4⟩ := hs
    have hle : ln (a, t, m.2.2.2 a t) ≤ 1740 := ln_le hs2
    have hneg : ¬ n < 0 := by rw [hn]; exact nI_pos (by omega)
    have hcl : n.toNatClampNeg = ln (a, t, m.2.2.2 a t) := by rw [hn]; exact nI_clamp (by omega)
    refine W.anew X.1 X.2.1 X.2.2.2.1 (X.2.2.2.2.1 _ (gw_in hl1)) (X.2.2.2.2.2.1 _ (nw_in hl2)) rfl hd rfl hneg (by rw [hcl]; omega) (Nat.le_trans hs1 hcap.1) (by rw [hcl]; exact Nat.le_trans hs3 hcap.2) fun cA kA comp f1 f2 f3 f4 => ?_
    rw [hcl]
    generalize hH1 : H.push ({ cls := cA, slots := Array.replicate (ln (a, t, m.2.2.2 a t)) .null, vm := .none } : Cell) = H1
    have z1 : H1.size = H.size + 1 := by rw [← hH1, Array.size_push]
    have e1 : H1[H.size]? = some (arrV cA (ln (a, t, m.2.2.2 a t)) (fun _ => .null)) := by rw [← hH1, Array.getElem?_push_size, ← arrV_new]
    have o1 : ∀ q : Nat, q < H.size → H1[q]? = H[q]? := fun q hq => by rw [← hH1, Array.getElem?_push, if_neg (Nat.ne_of_lt hq)]
    have hAr : ArrOfT s cA (.object (clsN (elS a'))) := fun N z => ⟨(fun k h => by cases h), kA, f2, comp, f3⟩
    obtain ⟨ad', w1, w2, w3⟩ := T.tl.new (H1 := H1) X hs2 ht z1 o1 (fun ad' h9 => by
      have hc0 : H1[ad' (a, t, m.2.2.2 a t)]? = some (arrV cA (ln (a, t, m.2.2.2 a t)) (fun k => va_rf ((gR (al m a t 1) (a, t, m.2.2.2 a t) k).map ad'))) := by
        rw [h9, e1]
        congr 2
        funext k
        rw [gR_al, (fresh0 T (t := t) hs2 k).2.2]
        rfl
      exact ⟨⟨_, hc0⟩, fun q => by omega, fun q => by omega, fun q => by omega, fun _ _ => ⟨cA, by rw [hsh, hel]; exact hAr, by rw [hsh, hel]; exact ⟨kA, comp, f2, f3, f4, f1⟩, hc0⟩⟩)
    have g := hs4 _ hf ad' H1 locs lsC w2
    rw [List.map_cons, w3] at g
    have hv : cv ad' (vo a t (m.2.2.2 a t)) = .ref H.size := congrArg Value.ref w1
    rw [hv] at g
    exact g
  · exact absurd hs id
end TB
