/-! THE STEPS: what the small machine does at an instruction, the JVM does. -/
def KN : List String := ["HOUSE", "FORGE", "MUFFLED", "BELLS", "MUTE", "CHOIR"]
def KFL : List (String × String × String × List Int32) := [("NoiseTithe$Kind", "number", "I", [0, 1, 2, 3, 4, 5]), ("NoiseTithe$Kind", "parent", "I", [0, 0, 0, 0, 2, 3]), ("NoiseTithe$Kind", "halves", "I", [2, 4, 1, 2, 0, 2])]
abbrev AB (B : Nat) : Nat → Prop := fun q => B ≤ q
/-- what holds all through a method -/
def CTX (p : Program) (s : State) (mm : MethodId) (args : Array Value) (c : Code) (cc : ByteArray) (nL oc B b L : Nat) (xs : Nat → Int32) (kd : Nat → Nat) (D : va_G) : Prop :=
  p.tables.exec = Jvm.exec ∧ c.code = cc ∧ c.maxLocals = nL ∧ s.vm.findClass (clsN oc) = some mm.cls ∧ (∀ w ∈ gw, w.before args s = true) ∧ (∀ w ∈ nw, w.before args s = true) ∧ va_K D clsT [] s ∧ B ≤ s.heap.size ∧
  va_En "NoiseTithe$Kind" "LNoiseTithe$Kind;" KN KFL kd (AB B) s s.heap ∧ va_X b L xs s s.heap ∧ b < B
def ST (B b L : Nat) (xs : Nat → Int32) (kd : Nat → Nat) (D : va_G) (s : State) (nL : Nat) (m0 : Mem) (ad0 ad : Id3 → Nat) (H : Heap) (locs : List Loc) (lsC : Array Slot) (ls st : List Vv) (m : Mem) : Prop :=
  REL B b L xs kd D s ad m H ∧ va_S (AB B) s.heap H locs ∧ LREL nL ad lsC ls ∧ (∀ v ∈ ls, vok L m v) ∧ (∀ v ∈ st, vok L m v) ∧ ∀ o, alc m0 o → alc m o ∧ ad o = ad0 o
abbrev PW (p : Program) (l : Launch) (e : Env) (R : Room) (s : State) (mm : MethodId) (args : Array Value) (below : List Frame) (meth : Method) (c : Code) (Q : State → Prop) (B b L : Nat) (xs : Nat → Int32) (kd : Nat → Nat) (D : va_G) (nL : Nat) (m0 : Mem) (ad0 : Id3 → Nat) (pcs : List Nat) : PT :=
  fun ix ls st m uc us => ∀ pc : Nat, pcs[ix]? = some pc → ∀ (ad : Id3 → Nat) (H : Heap) (locs : List Loc) (lsC : Array Slot), ST B b L xs kd D s nL m0 ad0 ad H locs lsC ls st m → W p l e R s mm args below meth c H locs uc us Q (F0 mm pc lsC (st.map (cv ad)))
section SX
variable {p : Program} {l : Launch} {e : Env} {R : Room} {s : State} {mm : MethodId} {args : Array Value} {below : List Frame} {meth : Method} {c : Code} {Q : State → Prop} {cc : ByteArray} {nL oc B b L : Nat} {xs : Nat → Int32} {kd : Nat → Nat} {D : va_G} {m0 : Mem} {ad0 ad : Id3 → Nat} {pcs : List Nat}
  {C : CT} {cap : Nat × Nat} {K : Option Vv → Mem → Prop} {ls st : List Vv} {m : Mem} {uc us pc nx a : Nat} {H : Heap} {locs : List Loc} {lsC : Array Slot}
theorem ST.stk {st' : List Vv} (T : ST B b L xs kd D s nL m0 ad0 ad H locs lsC ls st m) (h : ∀ v ∈ st', vok L m v) : ST B b L xs kd D s nL m0 ad0 ad H locs lsC ls st' m := ⟨T.1, T.2.1, T.2.2.1, T.2.2.2.1, h, T.2.2.2.2.2⟩
theorem ST.tl {v : Vv} {r : List Vv} (T : ST B b L xs kd D s nL m0 ad0 ad H locs lsC ls (v :: r) m) : ST B b L xs kd D s nL m0 ad0 ad H locs lsC ls r m := T.stk fun w hw => T.2.2.2.2.1 w (List.mem_cons_of_mem _ hw)
theorem ST.hd {v : Vv} {r : List Vv} (T : ST B b L xs kd D s nL m0 ad0 ad H locs lsC ls (v :: r) m) : vok L m v := T.2.2.2.2.1 v List.mem_cons_self
theorem ST.ps {v : Vv} {r : List Vv} (T : ST B b L xs kd D s nL m0 ad0 ad H locs lsC ls r m) (h : vok L m v) : ST B b L xs kd D s nL m0 ad0 ad H locs lsC ls (v :: r) m := T.stk fun w hw => (List.mem_cons.mp hw).elim (fun e => e ▸ h) (T.2.2.2.2.1 w)
theorem ST.lc {lsC' : Array Slot} {ls' : List Vv} (T : ST B b L xs kd D s nL m0 ad0 ad H locs lsC ls st m) (h : LREL nL ad lsC' ls') (hv : ∀ v ∈ ls', vok L m v) : ST B b L xs kd D s nL m0 ad0 ad H locs lsC' ls' st m := ⟨T.1, T.2.1, h, hv, T.2.2.2.2.1, T.2.2.2.2.2⟩
theorem ST.at {k : Nat} {v : Vv} (T : ST B b L xs kd D s nL m0 ad0 ad H locs lsC ls st m) (h : ls[k]? = some v) (hn : v ≠ vu) : lsC[k]? = some (.val (cv ad v)) := T.2.2.1.2.2.2 k v h hn
theorem sx_iconst (X : CTX p s mm args c cc nL oc B b L xs kd D) {k : Int} (hd : decode cc pc = .ok (.iconst k, 1)) (hf : pcs[nx]? = some (pc + 1)) (hs : stepE C cap (PW p l e R s mm args below meth c Q B b L xs kd D nL m0 ad0 pcs) K (eP (nx, ls, vi (Int32.ofInt k) :: st, m, uc, us))) (T : ST B b L xs kd D s nL m0 ad0 ad H locs lsC ls st m) : W p l e R s mm args below meth c H locs uc us Q (F0 mm pc lsC (st.map (cv ad))) := by
  exact lv_iconst X.1 X.2.1 hd rfl (hs _ hf ad H locs lsC (T.ps vokI))
theorem sx_bipush (X : CTX p s mm args c cc nL oc B b L xs kd D) {k : Int} (hd : decode cc pc = .ok (.bipush k, 2)) (hf : pcs[nx]? = some (pc + 2)) (hs : stepE C cap (PW p l e R s mm args below meth c Q B b L xs kd D nL m0 ad0 pcs) K (eP (nx, ls, vi (Int8.ofInt k).toInt32 :: st, m, uc, us))) (T : ST B b L xs kd D s nL m0 ad0 ad H locs lsC ls st m) : W p l e R s mm args below meth c H locs uc us Q (F0 mm pc lsC (st.map (cv ad))) := by
  exact lv_bipush X.1 X.2.1 hd rfl (hs _ hf ad H locs lsC (T.ps vokI))
theorem sx_sipush (X : CTX p s mm args c cc nL oc B b L xs kd D) {k : Int} (hd : decode cc pc = .ok (.sipush k, 3)) (hf : pcs[nx]? = some (pc + 3)) (hs : stepE C cap (PW p l e R s mm args below meth c Q B b L xs kd D nL m0 ad0 pcs) K (eP (nx, ls, vi (Int16.ofInt k).toInt32 :: st, m, uc, us))) (T : ST B b L xs kd D s nL m0 ad0 ad H locs lsC ls st m) : W p l e R s mm args below meth c H locs uc us Q (F0 mm pc lsC (st.map (cv ad))) := by
  exact lv_sipush X.1 X.2.1 hd rfl (hs _ hf ad H locs lsC (T.ps vokI))
theorem sx_lconst (X : CTX p s mm args c cc nL oc B b L xs kd D) {k : Fin 2} (hd : decode cc pc = .ok (.lconst k, 1)) (hf : pcs[nx]? = some (pc + 1)) (hs : stepE C cap (PW p l e R s mm args below meth c Q B b L xs kd D nL m0 ad0 pcs) K (eP (nx, ls, vl (Int64.ofNat (k : Nat)) :: st, m, uc, us))) (T : ST B b L xs kd D s nL m0 ad0 ad H locs lsC ls st m) : W p l e R s mm args below meth c H locs uc us Q (F0 mm pc lsC (st.map (cv ad))) := by
  exact lv_lconst X.1 X.2.1 hd rfl (hs _ hf ad H locs lsC (T.ps vokL))
theorem sx_null (X : CTX p s mm args c cc nL oc B b L xs kd D) (hd : decode cc pc = .ok (.aconst_null, 1)) (hf : pcs[nx]? = some (pc + 1)) (hs : stepE C cap (PW p l e R s mm args below meth c Q B b L xs kd D nL m0 ad0 pcs) K (eP (nx, ls, vr none :: st, m, uc, us))) (T : ST B b L xs kd D s nL m0 ad0 ad H locs lsC ls st m) : W p l e R s mm args below meth c H locs uc us Q (F0 mm pc lsC (st.map (cv ad))) := by
  exact lv_null X.1 X.2.1 hd (hs _ hf ad H locs lsC (T.ps vokN))
theorem sx_iload (X : CTX p s mm args c cc nL oc B b L xs kd D) {k : Nat} (hd : decode cc pc = .ok (.iload k, 2)) (hf : pcs[nx]? = some (pc + 2)) (hs : stepE C cap (PW p l e R s mm args below meth c Q B b L xs kd D nL m0 ad0 pcs) K (eLdI ls k nx st m uc us)) (T : ST B b L xs kd D s nL m0 ad0 ad H locs lsC ls st m) : W p l e R s mm args below meth c H locs uc us Q (F0 mm pc lsC (st.map (cv ad))) := by
  unfold eLdI at hs
  split at hs
  · rename_i x hx
    exact lv_iload X.1 X.2.1 hd (T.at hx (fun q => by cases q)) (hs _ hf ad H locs lsC (T.ps vokI))
  · exact absurd hs id
theorem sx_iload_n (X : CTX p s mm args c cc nL oc B b L xs kd D) {k : Fin 4} (hd : decode cc pc = .ok (.iload_n k, 1)) (hf : pcs[nx]? = some (pc + 1)) (hs : stepE C cap (PW p l e R s mm args below meth c Q B b L xs kd D nL m0 ad0 pcs) K (eLdI ls (k : Nat) nx st m uc us)) (T : ST B b L xs kd D s nL m0 ad0 ad H locs lsC ls st m) : W p l e R s mm args below meth c H locs uc us Q (F0 mm pc lsC (st.map (cv ad))) := by
  unfold eLdI at hs
  split at hs
  · rename_i x hx
    exact lv_iload_n X.1 X.2.1 hd rfl (T.at hx (fun q => by cases q)) (hs _ hf ad H locs lsC (T.ps vokI))
  · exact absurd hs id
theorem sx_lload (X : CTX p s mm args c cc nL oc B b L xs kd D) {k : Nat} (hd : decode cc pc = .ok (.lload k, 2)) (hf : pcs[nx]? = some (pc + 2)) (hs : stepE C cap (PW p l e R s mm args below meth c Q B b L xs kd D nL m0 ad0 pcs) K (eLdL ls k nx st m uc us)) (T : ST B b L xs kd D s nL m0 ad0 ad H locs lsC ls st m) : W p l e R s mm args below meth c H locs uc us Q (F0 mm pc lsC (st.map (cv ad))) := by
  unfold eLdL at hs
  split at hs
  · rename_i x hx
    exact lv_lload X.1 X.2.1 hd (T.at hx (fun q => by cases q)) (hs _ hf ad H locs lsC (T.ps vokL))
  · exact absurd hs id
theorem sx_lload_n (X : CTX p s mm args c cc nL oc B b L xs kd D) {k : Fin 4} (hd : decode cc pc = .ok (.lload_n k, 1)) (hf : pcs[nx]? = some (pc + 1)) (hs : stepE C cap (PW p l e R s mm args below meth c Q B b L xs kd D nL m0 ad0 pcs) K (eLdL ls (k : Nat) nx st m uc us)) (T : ST B b L xs kd D s nL m0 ad0 ad H locs lsC ls st m) : W p l e R s mm args below meth c H locs uc us Q (F0 mm pc lsC (st.map (cv ad))) := by
  unfold eLdL at hs
  split at hs
  · rename_i x hx
    exact lv_lload_n X.1 X.2.1 hd rfl (T.at hx (fun q => by cases q)) (hs _ hf ad H locs lsC (T.ps vokL))
  · exact absurd hs id
theorem sx_aload (X : CTX p s mm args c cc nL oc B b L xs kd D) {k : Nat} (hd : decode cc pc = .ok (.aload k, 2)) (hf : pcs[nx]? = some (pc + 2)) (hs : stepE C cap (PW p l e R s mm args below meth c Q B b L xs kd D nL m0 ad0 pcs) K (eLdA ls k nx st m uc us)) (T : ST B b L xs kd D s nL m0 ad0 ad H locs lsC ls st m) : W p l e R s mm args below meth c H locs uc us Q (F0 mm pc lsC (st.map (cv ad))) := by
  unfold eLdA at hs
  split at hs
  · rename_i r hx
    have hv : vok L m (vr r) := T.2.2.2.1 _ (List.mem_of_getElem? hx)
    have g := hs _ hf ad H locs lsC (T.ps hv)
    cases r with
    | none => exact lv_aloadN X.1 X.2.1 hd (T.at hx (fun q => by cases q)) g
    | some r => exact lv_aload X.1 X.2.1 hd (T.at hx (fun q => by cases q)) g
  · exact absurd hs id
theorem sx_aload_n (X : CTX p s mm args c cc nL oc B b L xs kd D) {k : Fin 4} (hd : decode cc pc = .ok (.aload_n k, 1)) (hf : pcs[nx]? = some (pc + 1)) (hs : stepE C cap (PW p l e R s mm args below meth c Q B b L xs kd D nL m0 ad0 pcs) K (eLdA ls (k : Nat) nx st m uc us)) (T : ST B b L xs kd D s nL m0 ad0 ad H locs lsC ls st m) : W p l e R s mm args below meth c H locs uc us Q (F0 mm pc lsC (st.map (cv ad))) := by
  unfold eLdA at hs
  split at hs
  · rename_i r hx
    have hv : vok L m (vr r) := T.2.2.2.1 _ (List.mem_of_getElem? hx)
    have g := hs _ hf ad H locs lsC (T.ps hv)
    cases r with
    | none => exact lv_aload_nN X.1 X.2.1 hd rfl (T.at hx (fun q => by cases q)) g
    | some r => exact lv_aload_n X.1 X.2.1 hd rfl (T.at hx (fun q => by cases q)) g
  · exact absurd hs id
theorem sx_istore (X : CTX p s mm args c cc nL oc B b L xs kd D) {k : Nat} (hd : decode cc pc = .ok (.istore k, 2)) (hf : pcs[nx]? = some (pc + 2)) (hs : stepE C cap (PW p l e R s mm args below meth c Q B b L xs kd D nL m0 ad0 pcs) K (eStI ls k nx st m uc us)) (T : ST B b L xs kd D s nL m0 ad0 ad H locs lsC ls st m) : W p l e R s mm args below meth c H locs uc us Q (F0 mm pc lsC (st.map (cv ad))) := by
  unfold eStI at hs
  split at hs
  · rename_i x r hb
    have hlt : k < nL := by rw [← T.2.2.1.2.2.1]; exact Nat.le_of_ble_eq_true hb
    exact lv_istore X.1 X.2.1 hd T.2.2.1.has hlt rfl (fun ls' h => hs _ hf ad H locs ls' (T.tl.lc (LREL.st1 (v := vi x) h T.2.2.1.2.2.1) (vok_st T.2.2.2.1 vokI)))
  · exact absurd hs id
theorem sx_istore_n (X : CTX p s mm args c cc nL oc B b L xs kd D) {k : Fin 4} (hd : decode cc pc = .ok (.istore_n k, 1)) (hf : pcs[nx]? = some (pc + 1)) (hs : stepE C cap (PW p l e R s mm args below meth c Q B b L xs kd D nL m0 ad0 pcs) K (eStI ls (k : Nat) nx st m uc us)) (T : ST B b L xs kd D s nL m0 ad0 ad H locs lsC ls st m) : W p l e R s mm args below meth c H locs uc us Q (F0 mm pc lsC (st.map (cv ad))) := by
  unfold eStI at hs
  split at hs
  · rename_i x r hb
    have hlt : (k : Nat) < nL := by rw [← T.2.2.1.2.2.1]; exact Nat.le_of_ble_eq_true hb
    exact lv_istore_n X.1 X.2.1 hd rfl T.2.2.1.has hlt rfl (fun ls' h => hs _ hf ad H locs ls' (T.tl.lc (LREL.st1 (v := vi x) h T.2.2.1.2.2.1) (vok_st T.2.2.2.1 vokI)))
  · exact absurd hs id
theorem sx_astore (X : CTX p s mm args c cc nL oc B b L xs kd D) {k : Nat} (hd : decode cc pc = .ok (.astore k, 2)) (hf : pcs[nx]? = some (pc + 2)) (hs : stepE C cap (PW p l e R s mm args below meth c Q B b L xs kd D nL m0 ad0 pcs) K (eStA ls k nx st m uc us)) (T : ST B b L xs kd D s nL m0 ad0 ad H locs lsC ls st m) : W p l e R s mm args below meth c H locs uc us Q (F0 mm pc lsC (st.map (cv ad))) := by
  unfold eStA at hs
  split at hs
  · rename_i x r hb
    have hlt : k < nL := by rw [← T.2.2.1.2.2.1]; exact Nat.le_of_ble_eq_true hb
    have hv := T.hd
    cases x with
    | none => exact lv_astoreN X.1 X.2.1 hd T.2.2.1.has hlt rfl (fun ls' h => hs _ hf ad H locs ls' (T.tl.lc (LREL.st1 (v := vr none) h T.2.2.1.2.2.1) (vok_st T.2.2.2.1 hv)))
    | some x => exact lv_astore X.1 X.2.1 hd T.2.2.1.has hlt rfl (fun ls' h => hs _ hf ad H locs ls' (T.tl.lc (LREL.st1 (v := vr (some x)) h T.2.2.1.2.2.1) (vok_st T.2.2.2.1 hv)))
  · exact absurd hs id
theorem sx_lstore (X : CTX p s mm args c cc nL oc B b L xs kd D) {k : Nat} (hd : decode cc pc = .ok (.lstore k, 2)) (hf : pcs[nx]? = some (pc + 2)) (hs : stepE C cap (PW p l e R s mm args below meth c Q B b L xs kd D nL m0 ad0 pcs) K (eStL ls k nx st m uc us)) (T : ST B b L xs kd D s nL m0 ad0 ad H locs lsC ls st m) : W p l e R s mm args below meth c H locs uc us Q (F0 mm pc lsC (st.map (cv ad))) := by
  unfold eStL at hs
  split at hs
  · rename_i x r hb
    have hlt : k + 1 < nL := by rw [← T.2.2.1.2.2.1]; exact Nat.le_of_ble_eq_true hb
    exact lv_lstore X.1 X.2.1 hd T.2.2.1.has hlt rfl (fun ls' h => hs _ hf ad H locs ls' (T.tl.lc (LREL.st2 (v := vl x) h T.2.2.1.2.2.1) (vok_set (vok_st T.2.2.2.1 vokL) vokU)))
  · exact absurd hs id
theorem sx_astore_n (X : CTX p s mm args c cc nL oc B b L xs kd D) {k : Fin 4} (hd : decode cc pc = .ok (.astore_n k, 1)) (hf : pcs[nx]? = some (pc + 1)) (hs : stepE C cap (PW p l e R s mm args below meth c Q B b L xs kd D nL m0 ad0 pcs) K (eStA ls (k : Nat) nx st m uc us)) (T : ST B b L xs kd D s nL m0 ad0 ad H locs lsC ls st m) : W p l e R s mm args below meth c H locs uc us Q (F0 mm pc lsC (st.map (cv ad))) := by
  unfold eStA at hs
  split at hs
  · rename_i x r hb
    have hlt : (k : Nat) < nL := by rw [← T.2.2.1.2.2.1]; exact Nat.le_of_ble_eq_true hb
    have hv := T.hd
    cases x with
    | none => exact lv_astore_nN X.1 X.2.1 hd rfl T.2.2.1.has hlt rfl (fun ls' h => hs _ hf ad H locs ls' (T.tl.lc (LREL.st1 (v := vr none) h T.2.2.1.2.2.1) (vok_st T.2.2.2.1 hv)))
    | some x => exact lv_astore_n X.1 X.2.1 hd rfl T.2.2.1.has hlt rfl (fun ls' h => hs _ hf ad H locs ls' (T.tl.lc (LREL.st1 (v := vr (some x)) h T.2.2.1.2.2.1) (vok_st T.2.2.2.1 hv)))
  · exact absurd hs id
theorem sx_lstore_n (X : CTX p s mm args c cc nL oc B b L xs kd D) {k : Fin 4} (hd : decode cc pc = .ok (.lstore_n k, 1)) (hf : pcs[nx]? = some (pc + 1)) (hs : stepE C cap (PW p l e R s mm args below meth c Q B b L xs kd D nL m0 ad0 pcs) K (eStL ls (k : Nat) nx st m uc us)) (T : ST B b L xs kd D s nL m0 ad0 ad H locs lsC ls st m) : W p l e R s mm args below meth c H locs uc us Q (F0 mm pc lsC (st.map (cv ad))) := by
  unfold eStL at hs
  split at hs
  · rename_i x r hb
    have hlt : (k : Nat) + 1 < nL := by rw [← T.2.2.1.2.2.1]; exact Nat.le_of_ble_eq_true hb
    exact lv_lstore_n X.1 X.2.1 hd rfl T.2.2.1.has hlt rfl (fun ls' h => hs _ hf ad H locs ls' (T.tl.lc (LREL.st2 (v := vl x) h T.2.2.1.2.2.1) (vok_set (vok_st T.2.2.2.1 vokL) vokU)))
  · exact absurd hs id
theorem sx_iinc (X : CTX p s mm args c cc nL oc B b L xs kd D) {k : Nat} {i : Int} (hd : decode cc pc = .ok (.iinc k i, 3)) (hf : pcs[nx]? = some (pc + 3)) (hs : stepE C cap (PW p l e R s mm args below meth c Q B b L xs kd D nL m0 ad0 pcs) K (eInc ls k nx (vi (Int32.ofInt i)) st m uc us)) (T : ST B b L xs kd D s nL m0 ad0 ad H locs lsC ls st m) : W p l e R s mm args below meth c H locs uc us Q (F0 mm pc lsC (st.map (cv ad))) := by
  unfold eInc at hs
  split at hs
  · rename_i x y hx hy
    cases hy
    have hlt : k < nL := by rw [← T.2.2.1.2.2.1]; exact (List.getElem?_eq_some_iff.mp hx).1
    obtain ⟨j, hj⟩ := List.getElem?_of_mem (lst_mem (ad := ad) hx (fun q => by cases q))
    exact lv_iinc X.1 X.2.1 hd T.2.2.1.has hj rfl hlt rfl (fun ls' h => hs _ hf ad H locs ls' (T.lc (LREL.st1 (v := vi (x + Int32.ofInt i)) h T.2.2.1.2.2.1) (vok_st T.2.2.2.1 vokI)))
  · exact absurd hs id
theorem sx_iadd (X : CTX p s mm args c cc nL oc B b L xs kd D) (hd : decode cc pc = .ok (.iadd, 1)) (hf : pcs[nx]? = some (pc + 1)) (hs : stepE C cap (PW p l e R s mm args below meth c Q B b L xs kd D nL m0 ad0 pcs) K (eI2 (fun x y => x + y) ls nx st m uc us)) (T : ST B b L xs kd D s nL m0 ad0 ad H locs lsC ls st m) : W p l e R s mm args below meth c H locs uc us Q (F0 mm pc lsC (st.map (cv ad))) := by
  unfold eI2 at hs
  split at hs
  · exact lv_iadd X.1 X.2.1 hd (hs _ hf ad H locs lsC (T.tl.tl.ps vokI))
  · exact absurd hs id
theorem sx_isub (X : CTX p s mm args c cc nL oc B b L xs kd D) (hd : decode cc pc = .ok (.isub, 1)) (hf : pcs[nx]? = some (pc + 1)) (hs : stepE C cap (PW p l e R s mm args below meth c Q B b L xs kd D nL m0 ad0 pcs) K (eI2 (fun x y => x - y) ls nx st m uc us)) (T : ST B b L xs kd D s nL m0 ad0 ad H locs lsC ls st m) : W p l e R s mm args below meth c H locs uc us Q (F0 mm pc lsC (st.map (cv ad))) := by
  unfold eI2 at hs
  split at hs
  · exact lv_isub X.1 X.2.1 hd (hs _ hf ad H locs lsC (T.tl.tl.ps vokI))
  · exact absurd hs id
theorem sx_imul (X : CTX p s mm args c cc nL oc B b L xs kd D) (hd : decode cc pc = .ok (.imul, 1)) (hf : pcs[nx]? = some (pc + 1)) (hs : stepE C cap (PW p l e R s mm args below meth c Q B b L xs kd D nL m0 ad0 pcs) K (eI2 (fun x y => x * y) ls nx st m uc us)) (T : ST B b L xs kd D s nL m0 ad0 ad H locs lsC ls st m) : W p l e R s mm args below meth c H locs uc us Q (F0 mm pc lsC (st.map (cv ad))) := by
  unfold eI2 at hs
  split at hs
  · exact lv_imul X.1 X.2.1 hd (hs _ hf ad H locs lsC (T.tl.tl.ps vokI))
  · exact absurd hs id
theorem sx_iand (X : CTX p s mm args c cc nL oc B b L xs kd D) (hd : decode cc pc = .ok (.iand, 1)) (hf : pcs[nx]? = some (pc + 1)) (hs : stepE C cap (PW p l e R s mm args below meth c Q B b L xs kd D nL m0 ad0 pcs) K (eI2 (fun x y => x &&& y) ls nx st m uc us)) (T : ST B b L xs kd D s nL m0 ad0 ad H locs lsC ls st m) : W p l e R s mm args below meth c H locs uc us Q (F0 mm pc lsC (st.map (cv ad))) := by
  unfold eI2 at hs
  split at hs
  · exact lv_iand X.1 X.2.1 hd (hs _ hf ad H locs lsC (T.tl.tl.ps vokI))
  · exact absurd hs id
theorem sx_ior (X : CTX p s mm args c cc nL oc B b L xs kd D) (hd : decode cc pc = .ok (.ior, 1)) (hf : pcs[nx]? = some (pc + 1)) (hs : stepE C cap (PW p l e R s mm args below meth c Q B b L xs kd D nL m0 ad0 pcs) K (eI2 (fun x y => x ||| y) ls nx st m uc us)) (T : ST B b L xs kd D s nL m0 ad0 ad H locs lsC ls st m) : W p l e R s mm args below meth c H locs uc us Q (F0 mm pc lsC (st.map (cv ad))) := by
  unfold eI2 at hs
  split at hs
  · exact lv_ior X.1 X.2.1 hd (hs _ hf ad H locs lsC (T.tl.tl.ps vokI))
  · exact absurd hs id
theorem sx_ixor (X : CTX p s mm args c cc nL oc B b L xs kd D) (hd : decode cc pc = .ok (.ixor, 1)) (hf : pcs[nx]? = some (pc + 1)) (hs : stepE C cap (PW p l e R s mm args below meth c Q B b L xs kd D nL m0 ad0 pcs) K (eI2 (fun x y => x ^^^ y) ls nx st m uc us)) (T : ST B b L xs kd D s nL m0 ad0 ad H locs lsC ls st m) : W p l e R s mm args below meth c H locs uc us Q (F0 mm pc lsC (st.map (cv ad))) := by
  unfold eI2 at hs
  split at hs
  · exact lv_ixor X.1 X.2.1 hd (hs _ hf ad H locs lsC (T.tl.tl.ps vokI))
  · exact absurd hs id
theorem sx_ishl (X : CTX p s mm args c cc nL oc B b L xs kd D) (hd : decode cc pc = .ok (.ishl, 1)) (hf : pcs[nx]? = some (pc + 1)) (hs : stepE C cap (PW p l e R s mm args below meth c Q B b L xs kd D nL m0 ad0 pcs) K (eI2 (fun x y => x <<< (y &&& 31)) ls nx st m uc us)) (T : ST B b L xs kd D s nL m0 ad0 ad H locs lsC ls st m) : W p l e R s mm args below meth c H locs uc us Q (F0 mm pc lsC (st.map (cv ad))) := by
  unfold eI2 at hs
  split at hs
  · exact lv_ishl X.1 X.2.1 hd (hs _ hf ad H locs lsC (T.tl.tl.ps vokI))
  · exact absurd hs id
theorem sx_ishr (X : CTX p s mm args c cc nL oc B b L xs kd D) (hd : decode cc pc = .ok (.ishr, 1)) (hf : pcs[nx]? = some (pc + 1)) (hs : stepE C cap (PW p l e R s mm args below meth c Q B b L xs kd D nL m0 ad0 pcs) K (eI2 (fun x y => x >>> (y &&& 31)) ls nx st m uc us)) (T : ST B b L xs kd D s nL m0 ad0 ad H locs lsC ls st m) : W p l e R s mm args below meth c H locs uc us Q (F0 mm pc lsC (st.map (cv ad))) := by
  unfold eI2 at hs
  split at hs
  · exact lv_ishr X.1 X.2.1 hd (hs _ hf ad H locs lsC (T.tl.tl.ps vokI))
  · exact absurd hs id
theorem sx_iushr (X : CTX p s mm args c cc nL oc B b L xs kd D) (hd : decode cc pc = .ok (.iushr, 1)) (hf : pcs[nx]? = some (pc + 1)) (hs : stepE C cap (PW p l e R s mm args below meth c Q B b L xs kd D nL m0 ad0 pcs) K (eI2 (fun x y => (x.toUInt32 >>> (y.toUInt32 &&& Int32.toUInt32 31)).toInt32) ls nx st m uc us)) (T : ST B b L xs kd D s nL m0 ad0 ad H locs lsC ls st m) : W p l e R s mm args below meth c H locs uc us Q (F0 mm pc lsC (st.map (cv ad))) := by
  unfold eI2 at hs
  split at hs
  · exact lv_iushr X.1 X.2.1 hd rfl (hs _ hf ad H locs lsC (T.tl.tl.ps vokI))
  · exact absurd hs id
theorem sx_idiv (X : CTX p s mm args c cc nL oc B b L xs kd D) (hd : decode cc pc = .ok (.idiv, 1)) (hf : pcs[nx]? = some (pc + 1)) (hs : stepE C cap (PW p l e R s mm args below meth c Q B b L xs kd D nL m0 ad0 pcs) K (eI2q (fun x y => x / y) ls nx st m uc us)) (T : ST B b L xs kd D s nL m0 ad0 ad H locs lsC ls st m) : W p l e R s mm args below meth c H locs uc us Q (F0 mm pc lsC (st.map (cv ad))) := by
  unfold eI2q at hs
  split at hs
  · exact lv_idiv X.1 X.2.1 hd hs.1 (hs.2 _ hf ad H locs lsC (T.tl.tl.ps vokI))
  · exact absurd hs id
theorem sx_irem (X : CTX p s mm args c cc nL oc B b L xs kd D) (hd : decode cc pc = .ok (.irem, 1)) (hf : pcs[nx]? = some (pc + 1)) (hs : stepE C cap (PW p l e R s mm args below meth c Q B b L xs kd D nL m0 ad0 pcs) K (eI2q (fun x y => x - x / y * y) ls nx st m uc us)) (T : ST B b L xs kd D s nL m0 ad0 ad H locs lsC ls st m) : W p l e R s mm args below meth c H locs uc us Q (F0 mm pc lsC (st.map (cv ad))) := by
  unfold eI2q at hs
  split at hs
  · exact lv_irem X.1 X.2.1 hd hs.1 (hs.2 _ hf ad H locs lsC (T.tl.tl.ps vokI))
  · exact absurd hs id
theorem sx_ldiv (X : CTX p s mm args c cc nL oc B b L xs kd D) (hd : decode cc pc = .ok (.ldiv, 1)) (hf : pcs[nx]? = some (pc + 1)) (hs : stepE C cap (PW p l e R s mm args below meth c Q B b L xs kd D nL m0 ad0 pcs) K (eL2q (fun x y => x / y) ls nx st m uc us)) (T : ST B b L xs kd D s nL m0 ad0 ad H locs lsC ls st m) : W p l e R s mm args below meth c H locs uc us Q (F0 mm pc lsC (st.map (cv ad))) := by
  unfold eL2q at hs
  split at hs
  · exact lv_ldiv X.1 X.2.1 hd hs.1 (hs.2 _ hf ad H locs lsC (T.tl.tl.ps vokL))
  · exact absurd hs id
theorem sx_lrem (X : CTX p s mm args c cc nL oc B b L xs kd D) (hd : decode cc pc = .ok (.lrem, 1)) (hf : pcs[nx]? = some (pc + 1)) (hs : stepE C cap (PW p l e R s mm args below meth c Q B b L xs kd D nL m0 ad0 pcs) K (eL2q (fun x y => x - x / y * y) ls nx st m uc us)) (T : ST B b L xs kd D s nL m0 ad0 ad H locs lsC ls st m) : W p l e R s mm args below meth c H locs uc us Q (F0 mm pc lsC (st.map (cv ad))) := by
  unfold eL2q at hs
  split at hs
  · exact lv_lrem X.1 X.2.1 hd hs.1 (hs.2 _ hf ad H locs lsC (T.tl.tl.ps vokL))
  · exact absurd hs id
theorem sx_ladd (X : CTX p s mm args c cc nL oc B b L xs kd D) (hd : decode cc pc = .ok (.ladd, 1)) (hf : pcs[nx]? = some (pc + 1)) (hs : stepE C cap (PW p l e R s mm args below meth c Q B b L xs kd D nL m0 ad0 pcs) K (eL2 (fun x y => x + y) ls nx st m uc us)) (T : ST B b L xs kd D s nL m0 ad0 ad H locs lsC ls st m) : W p l e R s mm args below meth c H locs uc us Q (F0 mm pc lsC (st.map (cv ad))) := by
  unfold eL2 at hs
  split at hs
  · exact lv_ladd X.1 X.2.1 hd (hs _ hf ad H locs lsC (T.tl.tl.ps vokL))
  · exact absurd hs id
theorem sx_lsub (X : CTX p s mm args c cc nL oc B b L xs kd D) (hd : decode cc pc = .ok (.lsub, 1)) (hf : pcs[nx]? = some (pc + 1)) (hs : stepE C cap (PW p l e R s mm args below meth c Q B b L xs kd D nL m0 ad0 pcs) K (eL2 (fun x y => x - y) ls nx st m uc us)) (T : ST B b L xs kd D s nL m0 ad0 ad H locs lsC ls st m) : W p l e R s mm args below meth c H locs uc us Q (F0 mm pc lsC (st.map (cv ad))) := by
  unfold eL2 at hs
  split at hs
  · exact lv_lsub X.1 X.2.1 hd (hs _ hf ad H locs lsC (T.tl.tl.ps vokL))
  · exact absurd hs id
theorem sx_lmul (X : CTX p s mm args c cc nL oc B b L xs kd D) (hd : decode cc pc = .ok (.lmul, 1)) (hf : pcs[nx]? = some (pc + 1)) (hs : stepE C cap (PW p l e R s mm args below meth c Q B b L xs kd D nL m0 ad0 pcs) K (eL2 (fun x y => x * y) ls nx st m uc us)) (T : ST B b L xs kd D s nL m0 ad0 ad H locs lsC ls st m) : W p l e R s mm args below meth c H locs uc us Q (F0 mm pc lsC (st.map (cv ad))) := by
  unfold eL2 at hs
  split at hs
  · exact lv_lmul X.1 X.2.1 hd (hs _ hf ad H locs lsC (T.tl.tl.ps vokL))
  · exact absurd hs id
theorem sx_ineg (X : CTX p s mm args c cc nL oc B b L xs kd D) (hd : decode cc pc = .ok (.ineg, 1)) (hf : pcs[nx]? = some (pc + 1)) (hs : stepE C cap (PW p l e R s mm args below meth c Q B b L xs kd D nL m0 ad0 pcs) K (eI1 (fun x => -x) ls nx st m uc us)) (T : ST B b L xs kd D s nL m0 ad0 ad H locs lsC ls st m) : W p l e R s mm args below meth c H locs uc us Q (F0 mm pc lsC (st.map (cv ad))) := by
  unfold eI1 at hs
  split at hs
  · exact lv_ineg X.1 X.2.1 hd (hs _ hf ad H locs lsC (T.tl.ps vokI))
  · exact absurd hs id
theorem sx_i2b (X : CTX p s mm args c cc nL oc B b L xs kd D) (hd : decode cc pc = .ok (.i2b, 1)) (hf : pcs[nx]? = some (pc + 1)) (hs : stepE C cap (PW p l e R s mm args below meth c Q B b L xs kd D nL m0 ad0 pcs) K (eI1 (fun x => x.toInt8.toInt32) ls nx st m uc us)) (T : ST B b L xs kd D s nL m0 ad0 ad H locs lsC ls st m) : W p l e R s mm args below meth c H locs uc us Q (F0 mm pc lsC (st.map (cv ad))) := by
  unfold eI1 at hs
  split at hs
  · exact lv_i2b X.1 X.2.1 hd rfl (hs _ hf ad H locs lsC (T.tl.ps vokI))
  · exact absurd hs id
theorem sx_lcmp (X : CTX p s mm args c cc nL oc B b L xs kd D) (hd : decode cc pc = .ok (.lcmp, 1)) (hf : pcs[nx]? = some (pc + 1)) (hs : stepE C cap (PW p l e R s mm args below meth c Q B b L xs kd D nL m0 ad0 pcs) K (eLc ls nx st m uc us)) (T : ST B b L xs kd D s nL m0 ad0 ad H locs lsC ls st m) : W p l e R s mm args below meth c H locs uc us Q (F0 mm pc lsC (st.map (cv ad))) := by
  unfold eLc at hs
  split at hs
  · exact W.lcmp X.1 X.2.1 hd (hs _ hf ad H locs lsC (T.tl.tl.ps vokI))
  · exact absurd hs id
theorem sx_i2l (X : CTX p s mm args c cc nL oc B b L xs kd D) (hd : decode cc pc = .ok (.i2l, 1)) (hf : pcs[nx]? = some (pc + 1)) (hs : stepE C cap (PW p l e R s mm args below meth c Q B b L xs kd D nL m0 ad0 pcs) K (eIL ls nx st m uc us)) (T : ST B b L xs kd D s nL m0 ad0 ad H locs lsC ls st m) : W p l e R s mm args below meth c H locs uc us Q (F0 mm pc lsC (st.map (cv ad))) := by
  unfold eIL at hs
  split at hs
  · exact lv_i2l X.1 X.2.1 hd rfl (hs _ hf ad H locs lsC (T.tl.ps vokL))
  · exact absurd hs id
theorem sx_l2i (X : CTX p s mm args c cc nL oc B b L xs kd D) (hd : decode cc pc = .ok (.l2i, 1)) (hf : pcs[nx]? = some (pc + 1)) (hs : stepE C cap (PW p l e R s mm args below meth c Q B b L xs kd D nL m0 ad0 pcs) K (eLI ls nx st m uc us)) (T : ST B b L xs kd D s nL m0 ad0 ad H locs lsC ls st m) : W p l e R s mm args below meth c H locs uc us Q (F0 mm pc lsC (st.map (cv ad))) := by
  unfold eLI at hs
  split at hs
  · exact lv_l2i X.1 X.2.1 hd rfl (hs _ hf ad H locs lsC (T.tl.ps vokI))
  · exact absurd hs id
theorem sx_goto (X : CTX p s mm args c cc nL oc B b L xs kd D) {off : Int} {tgt : Nat} (ht : (pc : Int) + off = (tgt : Int)) (hj : pcs[a]? = some tgt) (hd : decode cc pc = .ok (.goto off, 3)) (hs : stepE C cap (PW p l e R s mm args below meth c Q B b L xs kd D nL m0 ad0 pcs) K (eP (a, ls, st, m, uc, us))) (T : ST B b L xs kd D s nL m0 ad0 ad H locs lsC ls st m) : W p l e R s mm args below meth c H locs uc us Q (F0 mm pc lsC (st.map (cv ad))) := by
  exact lv_goto X.1 X.2.1 hd ht (hs _ hj ad H locs lsC T)
theorem sx_icmp_eq (X : CTX p s mm args c cc nL oc B b L xs kd D) {off : Int} {tgt : Nat} (ht : (pc : Int) + off = (tgt : Int)) (hj : pcs[a]? = some tgt) (hd : decode cc pc = .ok (.if_icmp .eq off, 3)) (hf : pcs[nx]? = some (pc + 3)) (hs : stepE C cap (PW p l e R s mm args below meth c Q B b L xs kd D nL m0 ad0 pcs) K (eCm (fun x y => x = y) ls a nx st m uc us)) (T : ST B b L xs kd D s nL m0 ad0 ad H locs lsC ls st m) : W p l e R s mm args below meth c H locs uc us Q (F0 mm pc lsC (st.map (cv ad))) := by
  unfold eCm at hs
  split at hs
  · exact lv_icmp_eq X.1 X.2.1 hd ht (fun q => hs.1 q _ hj ad H locs lsC T.tl.tl) (fun q => hs.2 q _ hf ad H locs lsC T.tl.tl)
  · exact absurd hs id
theorem sx_if_eq (X : CTX p s mm args c cc nL oc B b L xs kd D) {off : Int} {tgt : Nat} (ht : (pc : Int) + off = (tgt : Int)) (hj : pcs[a]? = some tgt) (hd : decode cc pc = .ok (.ifCond .eq off, 3)) (hf : pcs[nx]? = some (pc + 3)) (hs : stepE C cap (PW p l e R s mm args below meth c Q B b L xs kd D nL m0 ad0 pcs) K (eC0 (fun x => x = 0) ls a nx st m uc us)) (T : ST B b L xs kd D s nL m0 ad0 ad H locs lsC ls st m) : W p l e R s mm args below meth c H locs uc us Q (F0 mm pc lsC (st.map (cv ad))) := by
  unfold eC0 at hs
  split at hs
  · exact lv_if_eq X.1 X.2.1 hd ht (fun q => hs.1 q _ hj ad H locs lsC T.tl) (fun q => hs.2 q _ hf ad H locs lsC T.tl)
  · exact absurd hs id
theorem sx_icmp_ne (X : CTX p s mm args c cc nL oc B b L xs kd D) {off : Int} {tgt : Nat} (ht : (pc : Int) + off = (tgt : Int)) (hj : pcs[a]? = some tgt) (hd : decode cc pc = .ok (.if_icmp .ne off, 3)) (hf : pcs[nx]? = some (pc + 3)) (hs : stepE C cap (PW p l e R s mm args below meth c Q B b L xs kd D nL m0 ad0 pcs) K (eCm (fun x y => x = y) ls nx a st m uc us)) (T : ST B b L xs kd D s nL m0 ad0 ad H locs lsC ls st m) : W p l e R s mm args below meth c H locs uc us Q (F0 mm pc lsC (st.map (cv ad))) := by
  unfold eCm at hs
  split at hs
  · exact lv_icmp_ne X.1 X.2.1 hd ht (fun q => hs.2 q _ hj ad H locs lsC T.tl.tl) (fun q => hs.1 q _ hf ad H locs lsC T.tl.tl)
  · exact absurd hs id
theorem sx_if_ne (X : CTX p s mm args c cc nL oc B b L xs kd D) {off : Int} {tgt : Nat} (ht : (pc : Int) + off = (tgt : Int)) (hj : pcs[a]? = some tgt) (hd : decode cc pc = .ok (.ifCond .ne off, 3)) (hf : pcs[nx]? = some (pc + 3)) (hs : stepE C cap (PW p l e R s mm args below meth c Q B b L xs kd D nL m0 ad0 pcs) K (eC0 (fun x => x = 0) ls nx a st m uc us)) (T : ST B b L xs kd D s nL m0 ad0 ad H locs lsC ls st m) : W p l e R s mm args below meth c H locs uc us Q (F0 mm pc lsC (st.map (cv ad))) := by
  unfold eC0 at hs
  split at hs
  · exact lv_if_ne X.1 X.2.1 hd ht (fun q => hs.2 q _ hj ad H locs lsC T.tl) (fun q => hs.1 q _ hf ad H locs lsC T.tl)
  · exact absurd hs id
theorem sx_icmp_lt (X : CTX p s mm args c cc nL oc B b L xs kd D) {off : Int} {tgt : Nat} (ht : (pc : Int) + off = (tgt : Int)) (hj : pcs[a]? = some tgt) (hd : decode cc pc = .ok (.if_icmp .lt off, 3)) (hf : pcs[nx]? = some (pc + 3)) (hs : stepE C cap (PW p l e R s mm args below meth c Q B b L xs kd D nL m0 ad0 pcs) K (eCm (fun x y => x < y) ls a nx st m uc us)) (T : ST B b L xs kd D s nL m0 ad0 ad H locs lsC ls st m) : W p l e R s mm args below meth c H locs uc us Q (F0 mm pc lsC (st.map (cv ad))) := by
  unfold eCm at hs
  split at hs
  · exact lv_icmp_lt X.1 X.2.1 hd ht (fun q => hs.1 q _ hj ad H locs lsC T.tl.tl) (fun q => hs.2 q _ hf ad H locs lsC T.tl.tl)
  · exact absurd hs id
theorem sx_if_lt (X : CTX p s mm args c cc nL oc B b L xs kd D) {off : Int} {tgt : Nat} (ht : (pc : Int) + off = (tgt : Int)) (hj : pcs[a]? = some tgt) (hd : decode cc pc = .ok (.ifCond .lt off, 3)) (hf : pcs[nx]? = some (pc + 3)) (hs : stepE C cap (PW p l e R s mm args below meth c Q B b L xs kd D nL m0 ad0 pcs) K (eC0 (fun x => x < 0) ls a nx st m uc us)) (T : ST B b L xs kd D s nL m0 ad0 ad H locs lsC ls st m) : W p l e R s mm args below meth c H locs uc us Q (F0 mm pc lsC (st.map (cv ad))) := by
  unfold eC0 at hs
  split at hs
  · exact lv_if_lt X.1 X.2.1 hd ht (fun q => hs.1 q _ hj ad H locs lsC T.tl) (fun q => hs.2 q _ hf ad H locs lsC T.tl)
  · exact absurd hs id
theorem sx_icmp_ge (X : CTX p s mm args c cc nL oc B b L xs kd D) {off : Int} {tgt : Nat} (ht : (pc : Int) + off = (tgt : Int)) (hj : pcs[a]? = some tgt) (hd : decode cc pc = .ok (.if_icmp .ge off, 3)) (hf : pcs[nx]? = some (pc + 3)) (hs : stepE C cap (PW p l e R s mm args below meth c Q B b L xs kd D nL m0 ad0 pcs) K (eCm (fun x y => y ≤ x) ls a nx st m uc us)) (T : ST B b L xs kd D s nL m0 ad0 ad H locs lsC ls st m) : W p l e R s mm args below meth c H locs uc us Q (F0 mm pc lsC (st.map (cv ad))) := by
  unfold eCm at hs
  split at hs
  · exact lv_icmp_ge X.1 X.2.1 hd ht (fun q => hs.1 q _ hj ad H locs lsC T.tl.tl) (fun q => hs.2 q _ hf ad H locs lsC T.tl.tl)
  · exact absurd hs id
theorem sx_if_ge (X : CTX p s mm args c cc nL oc B b L xs kd D) {off : Int} {tgt : Nat} (ht : (pc : Int) + off = (tgt : Int)) (hj : pcs[a]? = some tgt) (hd : decode cc pc = .ok (.ifCond .ge off, 3)) (hf : pcs[nx]? = some (pc + 3)) (hs : stepE C cap (PW p l e R s mm args below meth c Q B b L xs kd D nL m0 ad0 pcs) K (eC0 (fun x => 0 ≤ x) ls a nx st m uc us)) (T : ST B b L xs kd D s nL m0 ad0 ad H locs lsC ls st m) : W p l e R s mm args below meth c H locs uc us Q (F0 mm pc lsC (st.map (cv ad))) := by
  unfold eC0 at hs
  split at hs
  · exact lv_if_ge X.1 X.2.1 hd ht (fun q => hs.1 q _ hj ad H locs lsC T.tl) (fun q => hs.2 q _ hf ad H locs lsC T.tl)
  · exact absurd hs id
theorem sx_icmp_gt (X : CTX p s mm args c cc nL oc B b L xs kd D) {off : Int} {tgt : Nat} (ht : (pc : Int) + off = (tgt : Int)) (hj : pcs[a]? = some tgt) (hd : decode cc pc = .ok (.if_icmp .gt off, 3)) (hf : pcs[nx]? = some (pc + 3)) (hs : stepE C cap (PW p l e R s mm args below meth c Q B b L xs kd D nL m0 ad0 pcs) K (eCm (fun x y => y < x) ls a nx st m uc us)) (T : ST B b L xs kd D s nL m0 ad0 ad H locs lsC ls st m) : W p l e R s mm args below meth c H locs uc us Q (F0 mm pc lsC (st.map (cv ad))) := by
  unfold eCm at hs
  split at hs
  · exact lv_icmp_gt X.1 X.2.1 hd ht (fun q => hs.1 q _ hj ad H locs lsC T.tl.tl) (fun q => hs.2 q _ hf ad H locs lsC T.tl.tl)
  · exact absurd hs id
theorem sx_if_gt (X : CTX p s mm args c cc nL oc B b L xs kd D) {off : Int} {tgt : Nat} (ht : (pc : Int) + off = (tgt : Int)) (hj : pcs[a]? = some tgt) (hd : decode cc pc = .ok (.ifCond .gt off, 3)) (hf : pcs[nx]? = some (pc + 3)) (hs : stepE C cap (PW p l e R s mm args below meth c Q B b L xs kd D nL m0 ad0 pcs) K (eC0 (fun x => 0 < x) ls a nx st m uc us)) (T : ST B b L xs kd D s nL m0 ad0 ad H locs lsC ls st m) : W p l e R s mm args below meth c H locs uc us Q (F0 mm pc lsC (st.map (cv ad))) := by
  unfold eC0 at hs
  split at hs
  · exact lv_if_gt X.1 X.2.1 hd ht (fun q => hs.1 q _ hj ad H locs lsC T.tl) (fun q => hs.2 q _ hf ad H locs lsC T.tl)
  · exact absurd hs id
theorem sx_icmp_le (X : CTX p s mm args c cc nL oc B b L xs kd D) {off : Int} {tgt : Nat} (ht : (pc : Int) + off = (tgt : Int)) (hj : pcs[a]? = some tgt) (hd : decode cc pc = .ok (.if_icmp .le off, 3)) (hf : pcs[nx]? = some (pc + 3)) (hs : stepE C cap (PW p l e R s mm args below meth c Q B b L xs kd D nL m0 ad0 pcs) K (eCm (fun x y => x ≤ y) ls a nx st m uc us)) (T : ST B b L xs kd D s nL m0 ad0 ad H locs lsC ls st m) : W p l e R s mm args below meth c H locs uc us Q (F0 mm pc lsC (st.map (cv ad))) := by
  unfold eCm at hs
  split at hs
  · exact lv_icmp_le X.1 X.2.1 hd ht (fun q => hs.1 q _ hj ad H locs lsC T.tl.tl) (fun q => hs.2 q _ hf ad H locs lsC T.tl.tl)
  · exact absurd hs id
theorem sx_if_le (X : CTX p s mm args c cc nL oc B b L xs kd D) {off : Int} {tgt : Nat} (ht : (pc : Int) + off = (tgt : Int)) (hj : pcs[a]? = some tgt) (hd : decode cc pc = .ok (.ifCond .le off, 3)) (hf : pcs[nx]? = some (pc + 3)) (hs : stepE C cap (PW p l e R s mm args below meth c Q B b L xs kd D nL m0 ad0 pcs) K (eC0 (fun x => x ≤ 0) ls a nx st m uc us)) (T : ST B b L xs kd D s nL m0 ad0 ad H locs lsC ls st m) : W p l e R s mm args below meth c H locs uc us Q (F0 mm pc lsC (st.map (cv ad))) := by
  unfold eC0 at hs
  split at hs
  · exact lv_if_le X.1 X.2.1 hd ht (fun q => hs.1 q _ hj ad H locs lsC T.tl) (fun q => hs.2 q _ hf ad H locs lsC T.tl)
  · exact absurd hs id
end SX
