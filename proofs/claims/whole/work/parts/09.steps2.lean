/-! THE STEPS that touch the heap. -/
theorem any_of {α : Type} {f : α → Bool} {l : List α} (h : l.any f = true) : ∃ x, x ∈ l ∧ f x = true := List.any_eq_true.mp h
theorem all_at {α : Type} {f : α → Bool} {l : List α} (h : l.all f = true) {x : α} (hx : x ∈ l) : f x = true := List.all_eq_true.mp h x hx
theorem clsT_at {a : Nat} (h : a < 8) : clsT[a]? = some (clsN a, (fun k => fT a k), fN a) := by
  rcases (show a = 0 ∨ a = 1 ∨ a = 2 ∨ a = 3 ∨ a = 4 ∨ a = 5 ∨ a = 6 ∨ a = 7 by omega) with rfl | rfl | rfl | rfl | rfl | rfl | rfl | rfl <;> rfl
theorem tyT_ok {a : Nat} (h : a < 8) : ∀ k, k < fN a → parseFieldDescriptor (fT a k).2.2.1 = some (tyT a k) := by
  rcases (show a = 0 ∨ a = 1 ∨ a = 2 ∨ a = 3 ∨ a = 4 ∨ a = 5 ∨ a = 6 ∨ a = 7 by omega) with rfl | rfl | rfl | rfl | rfl | rfl | rfl | rfl
  · exact tyX0_ok
  · exact tyX1_ok
  · exact tyX3_ok
  · exact tyX4_ok
  · exact tyX6_ok
  · exact tyX7_ok
  · exact tyX8_ok
  · exact tyX9_ok
theorem nmT_ok {a : Nat} (h : a < 8) : ∀ i, i < fN a → ∀ j, j < fN a → i ≠ j → (fT a i).2.1 ≠ (fT a j).2.1 := by
  rcases (show a = 0 ∨ a = 1 ∨ a = 2 ∨ a = 3 ∨ a = 4 ∨ a = 5 ∨ a = 6 ∨ a = 7 by omega) with rfl | rfl | rfl | rfl | rfl | rfl | rfl | rfl
  · exact nmX0
  · exact nmX1
  · exact nmX3
  · exact nmX4
  · exact nmX6
  · exact nmX7
  · exact nmX8
  · exact nmX9
theorem lay_in {a : Nat} (h : a < 8) : ∀ w ∈ u_ws (clsN a) (fun k => fT a k) (fN a), w ∈ gw := by
  intro w hw
  have g := all_at layL_ok (List.mem_range.mpr h)
  unfold chkL at g
  rw [clsT_at h] at g
  cases hl : layL[a]? with
  | none => rw [hl] at g; cases g
  | some ps =>
    rw [hl] at g
    simp only [Bool.and_eq_true] at g
    obtain ⟨k, hk, rfl⟩ := List.mem_map.mp hw
    exact gw_in (all_at g.2 hk)
theorem ins_in {a : Nat} (h : a < 8) : Cond.instantiable (clsN a) (fN a) ∈ gw ∧ Cond.initialized (clsN a) ∈ gw := by
  have g := all_at insL_ok (List.mem_range.mpr h)
  unfold chkJ at g
  rw [clsT_at h] at g
  cases hl : insL[a]? with
  | none => rw [hl] at g; cases g
  | some ps =>
    rw [hl] at g
    simp only [Bool.and_eq_true] at g
    exact ⟨gw_in g.1.1, gw_in g.1.2⟩
theorem fvL_get {ad : Id3 → Nat} {m : Mem} {a : Nat} {o : Id3} {k : Nat} (h : k < fN a) : (fvL ad m a o)[k]? = some (fv ad m a o k) := by
  unfold fvL
  rw [List.getElem?_map, List.getElem?_range h]
  rfl
theorem fvL_len {ad : Id3 → Nat} {m : Mem} {a : Nat} {o : Id3} : (fvL ad m a o).length = fN a := by simp [fvL]
/-- shapes of what is allocated on the two sides: below 2 -/
theorem alc_sd {m : Mem} {o : Id3} (h : alc m o) : o.1 < 2 := h.1
theorem live_alc {L : Nat} {m : Mem} {o : Id3} (h : live L m o) (hs : sh o ≠ 8) (h30 : sh o ≠ 30) : alc m o := by
  rcases h with g | ⟨g1, g2, g3⟩ | rfl
  · exact g
  · obtain ⟨a, t, i⟩ := o
    dsimp only at g1 g2
    subst g1; subst g2
    exact absurd rfl hs
  · exact absurd rfl h30
theorem live_kind {L : Nat} {m : Mem} {o : Id3} (h : live L m o) (hs : sh o = 8) : o.1 = 0 ∧ o.2.1 = 20 ∧ o.2.2 < 6 := by
  rcases h with g | g | rfl
  · exfalso
    obtain ⟨a, t, i⟩ := o
    obtain ⟨g1, g2, -⟩ := g
    have g1 : a < 2 := g1
    have g2 : ¬ (a = 0 ∧ t = 20) := g2
    rcases (show a = 0 ∨ a = 1 by omega) with rfl | rfl
    · have hs : sh0 t = 8 := hs
      unfold sh0 at hs
      split at hs <;> first | exact absurd hs (by decide) | exact g2 ⟨rfl, rfl⟩
    · have hs : sh1 t = 8 := hs
      unfold sh1 at hs
      split at hs <;> exact absurd hs (by decide)
  · exact g
  · exact absurd (show (30 : Nat) = 8 from hs) (by decide)
theorem live_scr {L : Nat} {m : Mem} {o : Id3} (h : live L m o) (hs : sh o = 30) : o = (2, 0, L) := by
  rcases h with g | ⟨g1, g2, g3⟩ | rfl
  · exfalso
    obtain ⟨a, t, i⟩ := o
    obtain ⟨g1, -⟩ := g
    have g1 : a < 2 := g1
    rcases (show a = 0 ∨ a = 1 by omega) with rfl | rfl
    · have hs : sh0 t = 30 := hs
      unfold sh0 at hs
      split at hs <;> exact absurd hs (by decide)
    · have hs : sh1 t = 30 := hs
      unfold sh1 at hs
      split at hs <;> exact absurd hs (by decide)
  · obtain ⟨a, t, i⟩ := o
    dsimp only at g1 g2
    subst g1; subst g2
    exact absurd (show (8 : Nat) = 30 from hs) (by decide)
  · rfl
section SY
variable {p : Program} {l : Launch} {e : Env} {R : Room} {s : State} {mm : MethodId} {args : Array Value} {below : List Frame} {meth : Method} {c : Code} {Q : State → Prop} {cc : ByteArray} {nL oc B b L : Nat} {xs : Nat → Int32} {kd : Nat → Nat} {D : va_G} {m0 : Mem} {ad0 ad : Id3 → Nat} {pcs : List Nat}
  {C : CT} {cap : Nat × Nat} {K : Option Vv → Mem → Prop} {ls st : List Vv} {m : Mem} {uc us pc nx a : Nat} {H : Heap} {locs : List Loc} {lsC : Array Slot}
/-- the cell of an allocated object -/
theorem ST.cell {o : Id3} (T : ST B b L xs kd D s nL m0 ad0 ad H locs lsC ls st m) (h : alc m o) : okC D s ad m o H := (T.1.1 o h).2
theorem sx_getfield (X : CTX p s mm args c cc nL oc B b L xs kd D) {i k : Nat} {ty : List Nat} (hd : decode cc pc = .ok (.getfield i, 3)) (hf : pcs[nx]? = some (pc + 3)) (hk : fldL.any (fun e => Nat.beq e.1 oc && Nat.beq e.2.1 i && Nat.beq e.2.2.1 a && Nat.beq e.2.2.2.1 k && decide (ty = [e.2.2.2.2.1])) = true)
    (hs : stepE C cap (PW p l e R s mm args below meth c Q B b L xs kd D nL m0 ad0 pcs) K (eGet a k nx ty ls st m uc us)) (T : ST B b L xs kd D s nL m0 ad0 ad H locs lsC ls st m) : W p l e R s mm args below meth c H locs uc us Q (F0 mm pc lsC (st.map (cv ad))) := by
  obtain ⟨⟨oc', i', a', k', ty', pl, nest⟩, hin, hq⟩ := any_of hk
  simp only [Bool.and_eq_true, Nat.beq_eq, decide_eq_true_eq] at hq
  obtain ⟨⟨⟨⟨rfl, rfl⟩, rfl⟩, rfl⟩, rfl⟩ := hq
  have hok := all_at fldL_ok hin
  unfold chkF at hok
  simp only [Bool.and_eq_true, Bool.or_eq_true] at hok
  obtain ⟨⟨hlink, hkn⟩, hty⟩ := hok
  have hkn : k' < fN a' := Nat.le_of_ble_eq_true hkn
  unfold eGet at hs
  split at hs
  · rename_i o r
    split at hs
    · rename_i hsh
      have hsh : sh o = a' := Nat.eq_of_beq_eq_true hsh
      have hlv : live L m o := T.hd o rfl
      rcases hty with ⟨ha, hty⟩ | ⟨ha, hty⟩
      · have ha : a' < 8 := Nat.le_of_ble_eq_true ha
        have hty : ty' = tyC (tyT a' k') := Nat.eq_of_beq_eq_true hty
        have hal := live_alc hlv (by omega) (by omega)
        have hc := (T.cell hal).2.1 (by omega)
        rw [hsh] at hc
        have hP : va_P D clsT [(ad o, .inr (a', fvL ad m a' o))] H := fun k q hq => by
          rcases k with _ | k
          · cases hq; exact hc
          · simp at hq
        have hv : cv ad (rdF m o k' [ty']) = fv ad m a' o k' := by
          unfold fv
          rw [← hty]
          have h3 : ty' ≤ 2 := by
            rw [hty]; unfold tyC; split <;> omega
          rcases (show ty' = 0 ∨ ty' = 1 ∨ ty' = 2 by omega) with h | h | h <;> rw [h] <;> rfl
        have hvk : vok L m (rdF m o k' [ty']) := by
          have h3 : ty' ≤ 2 := by
            rw [hty]; unfold tyC; split <;> omega
          rcases (show ty' = 0 ∨ ty' = 1 ∨ ty' = 2 by omega) with h | h | h <;> rw [h]
          · exact vokI
          · exact vokL
          · intro r hr
            have : gR m o k' = some r := by
              have := Sum.inr.inj (Sum.inr.inj hr)
              exact Sum.inl.inj this
            exact T.1.2.2.1 o k' r this
        have g := hs _ hf ad H locs lsC (T.tl.ps hvk)
        rw [List.map_cons, hv] at g
        cases nest with
        | true => exact va_getN (ci := a') (ws := [(ad o, .inr (a', fvL ad m a' o))]) X.1 X.2.1 X.2.2.2.2.1 (lay_in ha) X.2.2.2.1 X.2.2.2.2.2.2.1 hP 0 rfl (clsT_at ha) k' hkn (X.2.2.2.2.2.1 _ (nw_in hlink)) (fun _ h9 => h9) (fvL_get hkn) hd g
        | false => exact va_get (ci := a') (ws := [(ad o, .inr (a', fvL ad m a' o))]) X.1 X.2.1 X.2.2.2.2.1 (lay_in ha) X.2.2.2.1 X.2.2.2.2.2.2.1 hP 0 rfl (clsT_at ha) k' hkn (X.2.2.2.2.1 _ (gw_in hlink)) (fun _ h9 => h9) (fvL_get hkn) hd g
      · have ha : a' = 8 := Nat.eq_of_beq_eq_true ha
        have hty : ty' = 3 := Nat.eq_of_beq_eq_true hty
        subst ha; subst hty
        obtain ⟨h1, h2, h3⟩ := live_kind hlv hsh
        obtain ⟨oa, ot, oi⟩ := o
        dsimp only at h1 h2 h3
        subst h1; subst h2
        have had : ad (0, 20, oi) = kd oi := T.1.2.2.2.2.1 oi
        have g := hs _ hf ad H locs lsC (T.tl.ps vokI)
        have hkn : k' < 3 := hkn
        show W p l e R s mm args below meth c H locs uc us Q (F0 mm pc lsC (.ref (ad (0, 20, oi)) :: r.map (cv ad)))
        rw [had]
        rw [List.map_cons] at g
        have hlk : nest = false ∧ (Cond.fieldLink (clsN oc') i' (kF k').1 (kF k').2.1 (kF k').2.2.1 ∈ gw) ∨ nest = true ∧ (Cond.fieldLinkNest (clsN oc') i' (kF k').1 (kF k').2.1 (kF k').2.2.1 "NoiseTithe" ∈ nw) := by
          cases nest with
          | true => exact Or.inr ⟨rfl, nw_in hlink⟩
          | false => exact Or.inl ⟨rfl, gw_in hlink⟩
        have hE := X.2.2.2.2.2.2.2.2.1
        have hval : cv ad (rdF m (0, 20, oi) k' [3]) = .int (((KFL.getD k' default).2.2.2).getD oi 0) := by
          rcases (show k' = 0 ∨ k' = 1 ∨ k' = 2 by omega) with rfl | rfl | rfl <;> rcases (show oi = 0 ∨ oi = 1 ∨ oi = 2 ∨ oi = 3 ∨ oi = 4 ∨ oi = 5 by omega) with rfl | rfl | rfl | rfl | rfl | rfl <;> rfl
        rw [hval] at g
        have hq : KFL.getD k' default ∈ KFL := by
          rcases (show k' = 0 ∨ k' = 1 ∨ k' = 2 by omega) with rfl | rfl | rfl <;> decide
        have hqe : (KFL.getD k' default).1 = (kF k').1 ∧ (KFL.getD k' default).2.1 = (kF k').2.1 ∧ (KFL.getD k' default).2.2.1 = (kF k').2.2.1 := by
          rcases (show k' = 0 ∨ k' = 1 ∨ k' = 2 by omega) with rfl | rfl | rfl <;> exact ⟨rfl, rfl, rfl⟩
        have hoi : oi < KN.length := h3
        obtain ⟨hZ, hO, hF⟩ := hE.1 oi hoi
        obtain ⟨cf, kk, ii, f, cell, w1, w2, w3, w4, w5, w6⟩ := hF _ hq
        have hcell : H[kd oi]? = some cell := by rw [T.2.1.2.1 _ (Array.getElem?_eq_some_iff.mp w3).1 w6]; exact w3
        rw [hqe.1, hqe.2.1, hqe.2.2] at w1
        rcases hlk with ⟨-, hl⟩ | ⟨-, hl⟩
        · exact W.getf X.1 X.2.1 X.2.2.2.1 (X.2.2.2.2.1 _ hl) w1 w2 hcell w4 w5 rfl rfl hd g
        · exact va_Wgetf X.1 X.2.1 X.2.2.2.1 (X.2.2.2.2.2.1 _ hl) w1 w2 hcell w4 w5 rfl rfl hd g
    · exact absurd hs id
  · exact absurd hs id
end SY
