/-! THE RELATION between the small machine's memory and the JVM's heap. -/
def cv (ad : Id3 → Nat) (v : Vv) : Value := match v with
  | .inl x => .int x
  | .inr (.inl x) => .long x
  | .inr (.inr (.inl r)) => va_rf (r.map ad)
  | .inr (.inr (.inr _)) => .null
def alc (m : Mem) (o : Id3) : Prop := o.1 < 2 ∧ ¬ (o.1 = 0 ∧ o.2.1 = 20) ∧ o.2.2 < m.2.2.2 o.1 o.2.1
def live (L : Nat) (m : Mem) (o : Id3) : Prop := alc m o ∨ (o.1 = 0 ∧ o.2.1 = 20 ∧ o.2.2 < 6) ∨ o = (2, 0, L)
def vok (L : Nat) (m : Mem) (v : Vv) : Prop := ∀ r : Id3, v = vr (some r) → live L m r
def elT (a : Nat) : FieldType := match a with
  | 22 => .object (clsN 0)
  | 23 => .object (clsN 5)
  | 24 => .object (clsN 3)
  | 25 => .object (clsN 2)
  | _ => .array .int
def fv (ad : Id3 → Nat) (m : Mem) (a : Nat) (o : Id3) (k : Nat) : Value := match tyC (tyT a k) with
  | 0 => .int (gI m o k)
  | 1 => .long (gL m o k)
  | _ => va_rf ((gR m o k).map ad)
def fvL (ad : Id3 → Nat) (m : Mem) (a : Nat) (o : Id3) : List Value := (List.range (fN a)).map (fv ad m a o)
def okC (D : va_G) (s : State) (ad : Id3 → Nat) (m : Mem) (o : Id3) (H : Heap) : Prop :=
  (∃ cell : Cell, H[ad o]? = some cell) ∧
  (sh o < 8 → va_at D clsT (ad o, .inr (sh o, fvL ad m (sh o) o)) H) ∧
  (sh o = 20 → ∃ cA : ClassId, ArrOfT s cA .int ∧ H[ad o]? = some (arrV cA (ln o) (fun k => .int (gI m o k)))) ∧
  (sh o = 21 → ∃ cA : ClassId, ArrOfT s cA .boolean ∧ H[ad o]? = some (arrV cA (ln o) (fun k => .int (gI m o k)))) ∧
  (22 ≤ sh o → sh o ≤ 26 → ∃ cA : ClassId, ArrOfT s cA (elT (sh o)) ∧ va_RA s cA (elT (sh o)) ∧ H[ad o]? = some (arrV cA (ln o) (fun k => va_rf ((gR m o k).map ad))))
def REL (B b L : Nat) (xs : Nat → Int32) (kd : Nat → Nat) (D : va_G) (s : State) (ad : Id3 → Nat) (m : Mem) (H : Heap) : Prop :=
  (∀ o, alc m o → B ≤ ad o ∧ okC D s ad m o H) ∧
  (∀ o o', alc m o → alc m o' → ad o = ad o' → o = o') ∧
  (∀ o k r, gR m o k = some r → live L m r) ∧
  (∀ o : Id3, o.1 < 2 → ¬ alc m o → ∀ k, gI m o k = 0 ∧ gL m o k = 0 ∧ gR m o k = none) ∧
  (∀ k, ad (0, 20, k) = kd k) ∧ ad (2, 0, L) = b ∧ ∀ k, gI m (2, 0, L) k = xs k
def LREL (nL : Nat) (ad : Id3 → Nat) (lsC : Array Slot) (ls : List Vv) : Prop := lsC.size = nL ∧ lv_wf lsC ∧ ls.length = nL ∧ ∀ (k : Nat) (v : Vv), ls[k]? = some v → v ≠ vu → lsC[k]? = some (.val (cv ad v))
/-! what does not change -/
theorem okC.moved {D : va_G} {u U : State} {ad : Id3 → Nat} {m : Mem} {o : Id3} {H : Heap} (hvm : u.vm.Alike U.vm) (h : okC D u ad m o H) : okC D U ad m o H := by
  obtain ⟨h0, h1, h2, h3, h4⟩ := h
  refine ⟨h0, h1, fun q => ?_, fun q => ?_, fun q r => ?_⟩
  · obtain ⟨cA, a, b⟩ := h2 q
    exact ⟨cA, arrOfT_moved hvm a, b⟩
  · obtain ⟨cA, a, b⟩ := h3 q
    exact ⟨cA, arrOfT_moved hvm a, b⟩
  · obtain ⟨cA, a, a2, b⟩ := h4 q r
    exact ⟨cA, arrOfT_moved hvm a, a2.moved hvm, b⟩
theorem okC.kept {D : va_G} {s : State} {ad : Id3 → Nat} {m : Mem} {o : Id3} {H H1 : Heap} (h : okC D s ad m o H) (hq : H1[ad o]? = H[ad o]?) : okC D s ad m o H1 := by
  obtain ⟨h0, h1, h2, h3, h4⟩ := h
  refine ⟨by rw [hq]; exact h0, fun q => (h1 q).kept hq, fun q => ?_, fun q => ?_, fun q r => ?_⟩
  · obtain ⟨cA, a, b⟩ := h2 q
    exact ⟨cA, a, hq.trans b⟩
  · obtain ⟨cA, a, b⟩ := h3 q
    exact ⟨cA, a, hq.trans b⟩
  · obtain ⟨cA, a, a2, b⟩ := h4 q r
    exact ⟨cA, a, a2, hq.trans b⟩
/-- the same contents, the same addresses -/
theorem okC.same {D : va_G} {s : State} {ad ad' : Id3 → Nat} {m m' : Mem} {o : Id3} {H : Heap} (h : okC D s ad m o H) (ha : ad' o = ad o) (hI : ∀ k, gI m' o k = gI m o k) (hL : ∀ k, gL m' o k = gL m o k) (hR : ∀ k, (gR m' o k).map ad' = (gR m o k).map ad) : okC D s ad' m' o H := by
  have hf : fvL ad' m' (sh o) o = fvL ad m (sh o) o := by
    unfold fvL
    refine List.map_congr_left fun k _ => ?_
    unfold fv
    rw [hI, hL, hR]
  have e1 : (fun k => (Value.int (gI m' o k))) = fun k => .int (gI m o k) := funext fun k => by rw [hI]
  have e2 : (fun k => va_rf ((gR m' o k).map ad')) = fun k => va_rf ((gR m o k).map ad) := funext fun k => by rw [hR]
  unfold okC
  rw [hf, e1, e2, ha]
  exact h
theorem okC.lt {D : va_G} {s : State} {ad : Id3 → Nat} {m : Mem} {o : Id3} {H : Heap} (h : okC D s ad m o H) : ad o < H.size := by
  obtain ⟨⟨cell, h0⟩, -⟩ := h
  exact (Array.getElem?_eq_some_iff.mp h0).1
theorem REL.moved {B b L : Nat} {xs : Nat → Int32} {kd : Nat → Nat} {D : va_G} {u U : State} {ad : Id3 → Nat} {m : Mem} {H : Heap} (hvm : u.vm.Alike U.vm) (h : REL B b L xs kd D u ad m H) : REL B b L xs kd D U ad m H := by
  obtain ⟨h1, h2⟩ := h
  exact ⟨fun o ho => ⟨(h1 o ho).1, (h1 o ho).2.moved hvm⟩, h2⟩
theorem sh_tag {s t i j : Nat} : sh (s, t, i) = sh (s, t, j) := by
  unfold sh
  rfl
/-! reading back -/
theorem gI_pI (m : Mem) (o : Id3) (k : Nat) (v : Int32) (o' : Id3) (k' : Nat) (ho : o.1 < 2) (ho' : o'.1 < 2 ∨ o'.1 = 2) : gI (pI m o k v) o' k' = if o' = o ∧ k' = k then v else gI m o' k' := by
  obtain ⟨a, t, i⟩ := o
  obtain ⟨a', t', i'⟩ := o'
  have ha : a = 0 ∨ a = 1 := by simp only at ho; omega
  have ha' : a' = 0 ∨ a' = 1 ∨ a' = 2 := by simp only at ho'; omega
  rcases ha with rfl | rfl <;> rcases ha' with rfl | rfl | rfl <;> simp [gI, pI, sS, sd, up3, Prod.ext_iff, and_assoc]
theorem gI_pL (m : Mem) (o : Id3) (k : Nat) (v : Int64) (o' : Id3) (k' : Nat) : gI (pL m o k v) o' k' = gI m o' k' := by
  obtain ⟨a, t, i⟩ := o
  obtain ⟨a', t', i'⟩ := o'
  rcases a with _ | _ | a <;> rcases a' with _ | _ | a' <;> rfl
theorem gI_pR (m : Mem) (o : Id3) (k : Nat) (v : Option Id3) (o' : Id3) (k' : Nat) : gI (pR m o k v) o' k' = gI m o' k' := by
  obtain ⟨a, t, i⟩ := o
  obtain ⟨a', t', i'⟩ := o'
  rcases a with _ | _ | a <;> rcases a' with _ | _ | a' <;> rfl
theorem gL_pI (m : Mem) (o : Id3) (k : Nat) (v : Int32) (o' : Id3) (k' : Nat) : gL (pI m o k v) o' k' = gL m o' k' := by
  obtain ⟨a, t, i⟩ := o
  obtain ⟨a', t', i'⟩ := o'
  rcases a with _ | _ | a <;> rcases a' with _ | _ | a' <;> rfl
theorem gR_pI (m : Mem) (o : Id3) (k : Nat) (v : Int32) (o' : Id3) (k' : Nat) : gR (pI m o k v) o' k' = gR m o' k' := by
  obtain ⟨a, t, i⟩ := o
  obtain ⟨a', t', i'⟩ := o'
  rcases a with _ | _ | a <;> rcases a' with _ | _ | a' <;> rfl
theorem gR_pL (m : Mem) (o : Id3) (k : Nat) (v : Int64) (o' : Id3) (k' : Nat) : gR (pL m o k v) o' k' = gR m o' k' := by
  obtain ⟨a, t, i⟩ := o
  obtain ⟨a', t', i'⟩ := o'
  rcases a with _ | _ | a <;> rcases a' with _ | _ | a' <;> rfl
theorem gL_pR (m : Mem) (o : Id3) (k : Nat) (v : Option Id3) (o' : Id3) (k' : Nat) : gL (pR m o k v) o' k' = gL m o' k' := by
  obtain ⟨a, t, i⟩ := o
  obtain ⟨a', t', i'⟩ := o'
  rcases a with _ | _ | a <;> rcases a' with _ | _ | a' <;> rfl
theorem gL_pL (m : Mem) (o : Id3) (k : Nat) (v : Int64) (o' : Id3) (k' : Nat) (ho : o.1 < 2) (ho' : o'.1 < 2 ∨ o'.1 = 2) : gL (pL m o k v) o' k' = if o' = o ∧ k' = k then v else gL m o' k' := by
  obtain ⟨a, t, i⟩ := o
  obtain ⟨a', t', i'⟩ := o'
  have ha : a = 0 ∨ a = 1 := by simp only at ho; omega
  have ha' : a' = 0 ∨ a' = 1 ∨ a' = 2 := by simp only at ho'; omega
  rcases ha with rfl | rfl <;> rcases ha' with rfl | rfl | rfl <;> simp [gL, pL, sS, sd, up3, Prod.ext_iff, and_assoc]
theorem gR_pR (m : Mem) (o : Id3) (k : Nat) (v : Option Id3) (o' : Id3) (k' : Nat) (ho : o.1 < 2) (ho' : o'.1 < 2 ∨ o'.1 = 2) : gR (pR m o k v) o' k' = if o' = o ∧ k' = k then v else gR m o' k' := by
  obtain ⟨a, t, i⟩ := o
  obtain ⟨a', t', i'⟩ := o'
  have ha : a = 0 ∨ a = 1 := by simp only at ho; omega
  have ha' : a' = 0 ∨ a' = 1 ∨ a' = 2 := by simp only at ho'; omega
  rcases ha with rfl | rfl <;> rcases ha' with rfl | rfl | rfl <;> simp [gR, pR, sS, sd, up3, Prod.ext_iff, and_assoc]
theorem gI_al (m : Mem) (s t n : Nat) (o : Id3) (k : Nat) : gI (al m s t n) o k = gI m o k := by
  obtain ⟨a, t', i⟩ := o
  rcases a with _ | _ | a <;> rfl
theorem gL_al (m : Mem) (s t n : Nat) (o : Id3) (k : Nat) : gL (al m s t n) o k = gL m o k := by
  obtain ⟨a, t', i⟩ := o
  rcases a with _ | _ | a <;> rfl
theorem gR_al (m : Mem) (s t n : Nat) (o : Id3) (k : Nat) : gR (al m s t n) o k = gR m o k := by
  obtain ⟨a, t', i⟩ := o
  rcases a with _ | _ | a <;> rfl
theorem cnt_pI (m : Mem) (o : Id3) (k : Nat) (v : Int32) : (pI m o k v).2.2.2 = m.2.2.2 := by
  obtain ⟨a, t', i⟩ := o
  rcases a with _ | _ | a <;> rfl
theorem cnt_pL (m : Mem) (o : Id3) (k : Nat) (v : Int64) : (pL m o k v).2.2.2 = m.2.2.2 := by
  obtain ⟨a, t', i⟩ := o
  rcases a with _ | _ | a <;> rfl
theorem cnt_pR (m : Mem) (o : Id3) (k : Nat) (v : Option Id3) : (pR m o k v).2.2.2 = m.2.2.2 := by
  obtain ⟨a, t', i⟩ := o
  rcases a with _ | _ | a <;> rfl
theorem alc_cnt {m m' : Mem} (h : m'.2.2.2 = m.2.2.2) {o : Id3} : alc m' o ↔ alc m o := by
  unfold alc
  rw [h]
theorem live_cnt {L : Nat} {m m' : Mem} (h : m'.2.2.2 = m.2.2.2) {o : Id3} (hl : live L m o) : live L m' o := by
  unfold live at hl ⊢
  rw [alc_cnt h]
  exact hl
theorem vok_cnt {L : Nat} {m m' : Mem} (h : m'.2.2.2 = m.2.2.2) {v : Vv} (hl : vok L m v) : vok L m' v := fun r hr => live_cnt h (hl r hr)
theorem alc_al {m : Mem} {s t n : Nat} {o : Id3} (h : alc m o) : alc (al m s t n) o := by
  refine ⟨h.1, h.2.1, Nat.lt_of_lt_of_le h.2.2 ?_⟩
  show m.2.2.2 o.1 o.2.1 ≤ if o.1 = s ∧ o.2.1 = t then m.2.2.2 o.1 o.2.1 + n else m.2.2.2 o.1 o.2.1
  split <;> omega
theorem live_al {L : Nat} {m : Mem} {s t n : Nat} {o : Id3} (h : live L m o) : live L (al m s t n) o := h.imp alc_al id
theorem vok_al {L : Nat} {m : Mem} {s t n : Nat} {v : Vv} (h : vok L m v) : vok L (al m s t n) v := fun r hr => live_al (h r hr)
/-- one cell is written -/
theorem REL.upd {B b L : Nat} {xs : Nat → Int32} {kd : Nat → Nat} {D : va_G} {s : State} {ad : Id3 → Nat} {m m' : Mem} {H H1 : Heap} {o : Id3} (h : REL B b L xs kd D s ad m H) (ho : alc m o) (hc : m'.2.2.2 = m.2.2.2)
    (hoff : ∀ (o' : Id3) (k : Nat), o'.1 < 2 ∨ o'.1 = 2 → o' ≠ o → gI m' o' k = gI m o' k ∧ gL m' o' k = gL m o' k ∧ gR m' o' k = gR m o' k) (href : ∀ o' k r, gR m' o' k = some r → live L m r)
    (hH : ∀ q : Nat, q ≠ ad o → H1[q]? = H[q]?) (hcell : okC D s ad m' o H1) : REL B b L xs kd D s ad m' H1 := by
  obtain ⟨h1, h2, h3, h4, h5, h6, h7⟩ := h
  refine ⟨fun o' ho' => ?_, fun x y hx hy => h2 x y ((alc_cnt hc).mp hx) ((alc_cnt hc).mp hy), fun o' k r hr => live_cnt hc (href o' k r hr), fun o' ho' hn k => ?_, h5, h6, fun k => ?_⟩
  · have ho2 := (alc_cnt hc).mp ho'
    refine ⟨(h1 o' ho2).1, ?_⟩
    by_cases e : o' = o
    · subst e
      exact hcell
    · have g := fun k => hoff o' k (Or.inl ho2.1) e
      exact ((h1 o' ho2).2.same rfl (fun k => (g k).1) (fun k => (g k).2.1) (fun k => by rw [(g k).2.2])).kept (hH _ (fun q => e (h2 _ _ ho2 ho q)))
  · have hn2 : ¬ alc m o' := fun q => hn ((alc_cnt hc).mpr q)
    have e : o' ≠ o := fun q => hn2 (q ▸ ho)
    obtain ⟨g1, g2, g3⟩ := hoff o' k (Or.inl ho') e
    rw [g1, g2, g3]
    exact h4 o' ho' hn2 k
  · have e : ((2, 0, L) : Id3) ≠ o := fun q => by
      have := ho.1
      rw [← q] at this
      exact absurd (show 2 < 2 from this) (Nat.lt_irrefl 2)
    rw [(hoff _ k (Or.inr rfl) e).1]
    exact h7 k
/-- more cells -/
theorem REL.news {B b L : Nat} {xs : Nat → Int32} {kd : Nat → Nat} {D : va_G} {s : State} {ad ad' : Id3 → Nat} {m m' : Mem} {H H1 : Heap} {New : Id3 → Prop} (h : REL B b L xs kd D s ad m H) (hcase : ∀ x, alc m' x → alc m x ∨ New x) (hsub : ∀ x, alc m x → alc m' x) (hside : ∀ x, New x → x.1 < 2 ∧ ¬ (x.1 = 0 ∧ x.2.1 = 20) ∧ ¬ alc m x)
    (had : ∀ x, ¬ New x → ad' x = ad x) (hsz : ∀ x, New x → H.size ≤ ad' x) (hinj : ∀ x y, New x → New y → ad' x = ad' y → x = y) (hB : B ≤ H.size) (hH : ∀ q : Nat, q < H.size → H1[q]? = H[q]?)
    (cI : ∀ o k, gI m' o k = gI m o k) (cL : ∀ o k, gL m' o k = gL m o k) (cR : ∀ o k, ¬ New o → gR m' o k = gR m o k) (hR : ∀ o k r, gR m' o k = some r → live L m' r) (hz : ∀ o : Id3, o.1 < 2 → ¬ alc m' o → ¬ New o)
    (hcell : ∀ x, New x → okC D s ad' m' x H1) : REL B b L xs kd D s ad' m' H1 ∧ ∀ x, live L m x → ad' x = ad x := by
  obtain ⟨h1, h2, h3, h4, h5, h6, h7⟩ := h
  have hnl : ∀ x, live L m x → ¬ New x := by
    intro x hx hn
    obtain ⟨n1, n2, n3⟩ := hside x hn
    rcases hx with g | ⟨g1, g2, -⟩ | rfl
    · exact n3 g
    · exact n2 ⟨g1, g2⟩
    · exact absurd n1 (Nat.lt_irrefl 2)
  have hadl : ∀ x, live L m x → ad' x = ad x := fun x hx => had x (hnl x hx)
  refine ⟨⟨fun o ho => ?_, fun x y hx hy e => ?_, hR, fun o ho hn k => ?_, fun k => ?_, ?_, fun k => ?_⟩, hadl⟩
  · rcases hcase o ho with g | g
    · refine ⟨by rw [hadl o (Or.inl g)]; exact (h1 o g).1, ?_⟩
      refine ((h1 o g).2.same (hadl o (Or.inl g)) (fun k => cI ..) (fun k => cL ..) (fun k => ?_)).kept ?_
      · rw [cR _ _ (hnl o (Or.inl g))]
        cases hr : gR m o k with
        | none => rfl
        | some r => exact congrArg some (hadl r (h3 o k r hr))
      · rw [hadl o (Or.inl g)]
        exact hH _ (h1 o g).2.lt
    · exact ⟨Nat.le_trans hB (hsz o g), hcell o g⟩
  · rcases hcase x hx with gx | gx <;> rcases hcase y hy with gy | gy
    · rw [hadl x (Or.inl gx), hadl y (Or.inl gy)] at e
      exact h2 x y gx gy e
    · rw [hadl x (Or.inl gx)] at e
      have := (h1 x gx).2.lt
      have := hsz y gy
      omega
    · rw [hadl y (Or.inl gy)] at e
      have := (h1 y gy).2.lt
      have := hsz x gx
      omega
    · exact hinj x y gx gy e
  · rw [cI, cL, cR _ _ (hz o ho hn)]
    exact h4 o ho (fun q => hn (hsub o q)) k
  · rw [had _ (fun q => (hside _ q).2.1 ⟨rfl, rfl⟩)]
    exact h5 k
  · rw [had _ (fun q => absurd (hside _ q).1 (Nat.lt_irrefl 2))]
    exact h6
  · rw [cI]
    exact h7 k
theorem al_case {m : Mem} {s t n : Nat} {x : Id3} (h : alc (al m s t n) x) : alc m x ∨ (x.1 = s ∧ x.2.1 = t ∧ m.2.2.2 s t ≤ x.2.2 ∧ x.2.2 < m.2.2.2 s t + n) := by
  obtain ⟨g1, g2, g3⟩ := h
  obtain ⟨x1, x2, x3⟩ := x
  simp only [al] at g3
  by_cases e : x1 = s ∧ x2 = t
  · obtain ⟨rfl, rfl⟩ := e
    rw [if_pos ⟨rfl, rfl⟩] at g3
    by_cases e3 : x3 < m.2.2.2 x1 x2
    · exact Or.inl ⟨g1, g2, e3⟩
    · exact Or.inr ⟨rfl, rfl, Nat.not_lt.mp e3, g3⟩
  · rw [if_neg e] at g3
    exact Or.inl ⟨g1, g2, g3⟩
theorem al_new {m : Mem} {s t n : Nat} {x : Id3} (hs : s < 2) (ht : ¬ (s = 0 ∧ t = 20)) (h : x.1 = s ∧ x.2.1 = t ∧ m.2.2.2 s t ≤ x.2.2 ∧ x.2.2 < m.2.2.2 s t + n) : alc (al m s t n) x := by
  obtain ⟨x1, x2, x3⟩ := x
  obtain ⟨rfl, rfl, h3, h4⟩ := h
  refine ⟨hs, ht, ?_⟩
  show x3 < if x1 = x1 ∧ x2 = x2 then m.2.2.2 x1 x2 + n else m.2.2.2 x1 x2
  rw [if_pos ⟨rfl, rfl⟩]
  exact h4
/-- one more cell -/
theorem REL.new {B b L : Nat} {xs : Nat → Int32} {kd : Nat → Nat} {D : va_G} {s : State} {ad ad' : Id3 → Nat} {m : Mem} {H H1 : Heap} {sd' t : Nat} (h : REL B b L xs kd D s ad m H) (hs : sd' < 2) (ht : ¬ (sd' = 0 ∧ t = 20))
    (had : ∀ x, x ≠ (sd', t, m.2.2.2 sd' t) → ad' x = ad x) (hnew : ad' (sd', t, m.2.2.2 sd' t) = H.size) (hB : B ≤ H.size) (hH : ∀ q : Nat, q < H.size → H1[q]? = H[q]?) (hcell : okC D s ad' (al m sd' t 1) (sd', t, m.2.2.2 sd' t) H1) : REL B b L xs kd D s ad' (al m sd' t 1) H1 ∧ ∀ x, live L m x → ad' x = ad x := by
  have e1 : ∀ x : Id3, (x.1 = sd' ∧ x.2.1 = t ∧ m.2.2.2 sd' t ≤ x.2.2 ∧ x.2.2 < m.2.2.2 sd' t + 1) ↔ x = (sd', t, m.2.2.2 sd' t) := by
    intro x
    obtain ⟨x1, x2, x3⟩ := x
    constructor
    · rintro ⟨rfl, rfl, h3, h4⟩
      have h3 : m.2.2.2 x1 x2 ≤ x3 := h3
      have h4 : x3 < m.2.2.2 x1 x2 + 1 := h4
      rw [show x3 = m.2.2.2 x1 x2 by omega]
    · intro q
      cases q
      exact ⟨rfl, rfl, Nat.le_refl _, Nat.lt_succ_self _⟩
  refine REL.news (New := fun x => x = (sd', t, m.2.2.2 sd' t)) h (fun x hx => (al_case hx).imp id (fun q => (e1 x).mp q)) (fun x hx => alc_al hx) (fun x hx => by subst hx; exact ⟨hs, ht, fun q => absurd q.2.2 (Nat.lt_irrefl _)⟩) had (fun x hx => by subst hx; rw [hnew]; exact Nat.le_refl _) (fun x y hx hy _ => by rw [hx, hy]) hB hH (fun o k => gI_al ..) (fun o k => gL_al ..) (fun o k _ => gR_al ..) (fun o k r hr => live_al (h.2.2.1 o k r (by rw [gR_al] at hr; exact hr))) (fun o _ hn q => hn (al_new hs ht ((e1 o).mpr q))) (fun x hx => by subst hx; exact hcell)
/-! the locals -/
theorem cv_ext {L : Nat} {m : Mem} {ad ad' : Id3 → Nat} (h : ∀ x, live L m x → ad' x = ad x) {v : Vv} (hv : vok L m v) : cv ad' v = cv ad v := by
  rcases v with x | x | r | u
  · rfl
  · rfl
  · cases r with
    | none => rfl
    | some r => exact congrArg Value.ref (h r (hv r rfl))
  · rfl
theorem cvs_ext {L : Nat} {m : Mem} {ad ad' : Id3 → Nat} (h : ∀ x, live L m x → ad' x = ad x) {l : List Vv} (hv : ∀ v ∈ l, vok L m v) : l.map (cv ad') = l.map (cv ad) := List.map_congr_left fun v hm => cv_ext h (hv v hm)
theorem LREL.ext {nL L : Nat} {m : Mem} {ad ad' : Id3 → Nat} {lsC : Array Slot} {ls : List Vv} (h : LREL nL ad lsC ls) (ha : ∀ x, live L m x → ad' x = ad x) (hv : ∀ v ∈ ls, vok L m v) : LREL nL ad' lsC ls := by
  obtain ⟨h1, h2, h3, h4⟩ := h
  exact ⟨h1, h2, h3, fun k v hk hn => by rw [cv_ext ha (hv v (List.mem_of_getElem? hk))]; exact h4 k v hk hn⟩
theorem cv_cat {ad : Id3 → Nat} {v : Vv} : (cv ad v).category = ctg v := by
  rcases v with x | x | (_ | r) | u <;> rfl
theorem cvs_cat {ad : Id3 → Nat} : ∀ l : List Vv, ((l.map (cv ad)).map fun v => v.category).sum = ctgs l
  | [] => rfl
  | v :: r => by
    simp only [List.map_cons, List.sum_cons, ctgs]
    rw [cv_cat, ← cvs_cat r]
theorem vokI {L : Nat} {m : Mem} {x : Int32} : vok L m (vi x) := fun r h => by cases h
theorem vokL {L : Nat} {m : Mem} {x : Int64} : vok L m (vl x) := fun r h => by cases h
theorem vokU {L : Nat} {m : Mem} : vok L m vu := fun r h => by cases h
theorem vokN {L : Nat} {m : Mem} : vok L m (vr none) := fun r h => by cases h
theorem clr_len : ∀ (ls : List Vv) (a : Nat), (clr ls a).length = ls.length
  | [], _ => by simp [clr]
  | x :: r, 0 => by simp [clr]
  | x :: r, 1 => by simp [clr]
  | x :: r, k + 2 => by simp [clr, clr_len r (k + 1)]
theorem clr_get : ∀ (ls : List Vv) (a k : Nat) (v : Vv), (clr ls a)[k]? = some v → v ≠ vu → ls[k]? = some v ∧ ¬ (k + 1 = a ∧ ctg v = 2)
  | [], _, _, _, h, _ => by simp [clr] at h
  | x :: r, 0, k, v, h, _ => by
    simp only [clr] at h
    exact ⟨h, by omega⟩
  | x :: r, 1, 0, v, h, hn => by
    rcases x with y | y | y | y <;> simp [clr] at h <;> subst h
    · exact ⟨rfl, fun q => by simp [ctg] at q⟩
    · exact absurd rfl hn
    · exact ⟨rfl, fun q => by simp [ctg] at q⟩
    · exact absurd rfl hn
  | x :: r, 1, k + 1, v, h, hn => by
    simp [clr] at h
    exact ⟨h, by omega⟩
  | x :: r, a + 2, 0, v, h, hn => by
    simp [clr] at h
    exact ⟨by simp [h], by omega⟩
  | x :: r, a + 2, k + 1, v, h, hn => by
    simp only [clr, List.getElem?_cons_succ] at h
    obtain ⟨g1, g2⟩ := clr_get r (a + 1) k v h hn
    exact ⟨by simpa using g1, fun q => g2 ⟨by omega, q.2⟩⟩
theorem stL_len (ls : List Vv) (a : Nat) (v : Vv) : (stL ls a v).length = ls.length := by simp [stL, clr_len]
theorem stL_get {ls : List Vv} {a k : Nat} {v w : Vv} (h : (stL ls a v)[k]? = some w) (hn : w ≠ vu) : (k = a ∧ w = v) ∨ (k ≠ a ∧ ls[k]? = some w ∧ ¬ (k + 1 = a ∧ ctg w = 2)) := by
  unfold stL at h
  by_cases e : k = a
  · subst e
    rw [List.getElem?_set] at h
    simp only [↓reduceIte] at h
    split at h
    · cases h
      exact Or.inl ⟨rfl, rfl⟩
    · cases h
  · rw [List.getElem?_set_ne (Ne.symm e)] at h
    exact Or.inr ⟨e, clr_get ls a k w h hn⟩
/-- the listed locals -/
def lst (ad : Id3 → Nat) (ls : List Vv) : List (Nat × Value) := (List.range ls.length).filterMap fun k => match (ls[k]? : Option Vv) with
  | some (.inl x) => some (k, cv ad (vi x))
  | some (.inr (.inl x)) => some (k, cv ad (vl x))
  | some (.inr (.inr (.inl x))) => some (k, cv ad (vr x))
  | _ => none
theorem lst_mem {ad : Id3 → Nat} {ls : List Vv} {k : Nat} {v : Vv} (h : ls[k]? = some v) (hn : v ≠ vu) : (k, cv ad v) ∈ lst ad ls := by
  refine List.mem_filterMap.mpr ⟨k, List.mem_range.mpr (List.getElem?_eq_some_iff.mp h).1, ?_⟩
  rw [h]
  rcases v with x | x | x | u
  · rfl
  · rfl
  · rfl
  · exact absurd rfl hn
theorem lst_of {ad : Id3 → Nat} {ls : List Vv} {q : Nat × Value} (h : q ∈ lst ad ls) : ∃ v, ls[q.1]? = some v ∧ v ≠ vu ∧ q.2 = cv ad v := by
  obtain ⟨k, -, hk⟩ := List.mem_filterMap.mp h
  cases hl : ls[k]? with
  | none => rw [hl] at hk; cases hk
  | some v =>
    rw [hl] at hk
    rcases v with x | x | x | u
    · cases hk; exact ⟨_, hl, (fun q => by cases q), rfl⟩
    · cases hk; exact ⟨_, hl, (fun q => by cases q), rfl⟩
    · cases hk; exact ⟨_, hl, (fun q => by cases q), rfl⟩
    · cases hk
theorem LREL.has {nL : Nat} {ad : Id3 → Nat} {lsC : Array Slot} {ls : List Vv} (h : LREL nL ad lsC ls) : lv_has lsC nL (lst ad ls) := by
  obtain ⟨h1, h2, h3, h4⟩ := h
  refine ⟨h1, h2, fun q hq => ?_⟩
  obtain ⟨v, g1, g2, g3⟩ := lst_of hq
  rw [g3]
  exact h4 _ _ g1 g2
/-- behind a store of one slot -/
theorem LREL.st1 {nL a : Nat} {ad : Id3 → Nat} {lsC : Array Slot} {ls : List Vv} {v : Vv} (h : lv_has lsC nL ((a, cv ad v) :: (lst ad ls).filter (fun q => !(q.1 == a) && !(q.1 + 1 == a && q.2.category == 2)))) (hl : ls.length = nL) : LREL nL ad lsC (stL ls a v) := by
  refine ⟨h.1, h.2.1, by rw [stL_len]; exact hl, fun k w hk hn => ?_⟩
  rcases stL_get hk hn with ⟨rfl, rfl⟩ | ⟨g1, g2, g3⟩
  · exact h.2.2 (k, cv ad w) List.mem_cons_self
  · refine h.2.2 (k, cv ad w) (List.mem_cons_of_mem _ (List.mem_filter.mpr ⟨lst_mem g2 hn, ?_⟩))
    simp only [Bool.and_eq_true, Bool.not_eq_true', beq_eq_false_iff_ne, ne_eq, Bool.and_eq_false_iff]
    refine ⟨g1, ?_⟩
    by_cases e : k + 1 = a
    · exact Or.inr (by rw [cv_cat]; exact fun q => g3 ⟨e, q⟩)
    · exact Or.inl e
theorem LREL.st2 {nL a : Nat} {ad : Id3 → Nat} {lsC : Array Slot} {ls : List Vv} {v : Vv} (h : lv_has lsC nL ((a, cv ad v) :: (lst ad ls).filter (fun q => !(q.1 == a) && (!(q.1 == a + 1) && !(q.1 + 1 == a && q.2.category == 2))))) (hl : ls.length = nL) : LREL nL ad lsC ((stL ls a v).set (a + 1) vu) := by
  refine ⟨h.1, h.2.1, by rw [List.length_set, stL_len]; exact hl, fun k w hk hn => ?_⟩
  have e1 : k ≠ a + 1 := by
    intro e
    subst e
    rw [List.getElem?_set] at hk
    simp only [↓reduceIte] at hk
    split at hk
    · cases hk
      exact hn rfl
    · cases hk
  rw [List.getElem?_set_ne (Ne.symm e1)] at hk
  rcases stL_get hk hn with ⟨rfl, rfl⟩ | ⟨g1, g2, g3⟩
  · exact h.2.2 (k, cv ad w) List.mem_cons_self
  · refine h.2.2 (k, cv ad w) (List.mem_cons_of_mem _ (List.mem_filter.mpr ⟨lst_mem g2 hn, ?_⟩))
    simp only [Bool.and_eq_true, Bool.not_eq_true', beq_eq_false_iff_ne, ne_eq, Bool.and_eq_false_iff]
    refine ⟨g1, e1, ?_⟩
    by_cases e : k + 1 = a
    · exact Or.inr (by rw [cv_cat]; exact fun q => g3 ⟨e, q⟩)
    · exact Or.inl e
theorem vok_st {L : Nat} {m : Mem} {ls : List Vv} {a : Nat} {v : Vv} (h : ∀ w ∈ ls, vok L m w) (hv : vok L m v) : ∀ w ∈ stL ls a v, vok L m w := by
  intro w hw
  by_cases hn : w = vu
  · rw [hn]; exact vokU
  · obtain ⟨k, hk⟩ := List.getElem?_of_mem hw
    rcases stL_get hk hn with ⟨-, rfl⟩ | ⟨-, g, -⟩
    · exact hv
    · exact h w (List.mem_of_getElem? g)
theorem vok_set {L : Nat} {m : Mem} {ls : List Vv} {a : Nat} {v : Vv} (h : ∀ w ∈ ls, vok L m w) (hv : vok L m v) : ∀ w ∈ ls.set a v, vok L m w := by
  intro w hw
  rcases List.mem_or_eq_of_mem_set hw with g | rfl
  · exact h w g
  · exact hv
