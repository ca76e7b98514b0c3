/-! THE STEP multianewarray; the library's own methods. -/
theorem nu_outer (cA : ClassId) (N h0 : Nat) : ∀ i : Nat, Jvm.Free.Multi.outerC cA N h0 i = arrV cA N (fun j => va_rf (if j < i then some (h0 + 1 + j) else none))
  | 0 => by
    show ({ cls := cA, slots := Array.replicate N .null, vm := .none } : Cell) = _
    rw [arrV_new]
    refine congrArg (arrV cA N) (funext fun j => ?_)
    simp [va_rf]
  | i + 1 => by
    show (Jvm.Free.Multi.outerC cA N h0 i).setSlot i (.ref (h0 + 1 + i)) = _
    rw [nu_outer cA N h0 i, arrV_store]
    refine congrArg (arrV cA N) (funext fun j => ?_)
    by_cases e : j = i
    · subst e
      simp [updV, va_rf]
    · by_cases h : j < i
      · simp [updV, e, h, Nat.lt_succ_of_lt h]
      · simp [updV, e, h, show ¬ j < i + 1 by omega]
theorem gI_rws (m : Mem) (o : Id3) (t i n : Nat) (o' : Id3) (k : Nat) : gI (rws m o t i n) o' k = gI m o' k := by
  obtain ⟨a, t', i'⟩ := o
  obtain ⟨a', t2, i2⟩ := o'
  rcases a with _ | _ | a <;> rcases a' with _ | _ | a' <;> rfl
theorem gL_rws (m : Mem) (o : Id3) (t i n : Nat) (o' : Id3) (k : Nat) : gL (rws m o t i n) o' k = gL m o' k := by
  obtain ⟨a, t', i'⟩ := o
  obtain ⟨a', t2, i2⟩ := o'
  rcases a with _ | _ | a <;> rcases a' with _ | _ | a' <;> rfl
theorem gR_rws0 (m : Mem) (t0 i0 t i n : Nat) (o' : Id3) (k : Nat) : gR (rws m (0, t0, i0) t i n) o' k = if o' = (0, t0, i0) then (if k < n then some (0, t, i + k) else none) else gR m o' k := by
  obtain ⟨a', t2, i2⟩ := o'
  rcases a' with _ | _ | a'
  · simp [gR, rws, sS, sd, Prod.ext_iff]
  · simp [gR, rws, sS, sd, Prod.ext_iff]
  · have h : ¬ ((a' + 1 + 1, t2, i2) : Id3) = (0, t0, i0) := fun q => by simp at q
    rw [if_neg h]
    rfl
theorem cnt_rws (m : Mem) (o : Id3) (t i n : Nat) : (rws m o t i n).2.2.2 = m.2.2.2 := by
  obtain ⟨a, t', i'⟩ := o
  rcases a with _ | _ | a <;> rfl
section TC
variable {p : Program} {l : Launch} {e : Env} {R : Room} {s : State} {mm : MethodId} {args : Array Value} {below : List Frame} {meth : Method} {c : Code} {Q : State → Prop} {cc : ByteArray} {nL oc B b L : Nat} {xs : Nat → Int32} {kd : Nat → Nat} {D : va_G} {m0 : Mem} {ad0 ad : Id3 → Nat} {pcs : List Nat}
  {C : CT} {cap : Nat × Nat} {K : Option Vv → Mem → Prop} {ls st : List Vv} {m : Mem} {uc us pc nx a : Nat} {H : Heap} {locs : List Loc} {lsC : Array Slot}
theorem sx_multi (X : CTX p s mm args c cc nL oc B b L xs kd D) (hcap : cap.1 ≤ R.cells ∧ cap.2 ≤ R.slots) (hoc : oc = 5) (hd : decode cc pc = .ok (.multianewarray 23 2, 4)) (hf : pcs[nx]? = some (pc + 4))
    (hs : stepE C cap (PW p l e R s mm args below meth c Q B b L xs kd D nL m0 ad0 pcs) K (eMul cap 0 12 nx 13 ls st m uc us)) (T : ST B b L xs kd D s nL m0 ad0 ad H locs lsC ls st m) : W p l e R s mm args below meth c H locs uc us Q (F0 mm pc lsC (st.map (cv ad))) := by
  have hw := mulA_ok
  simp only [Bool.and_eq_true] at hw
  obtain ⟨⟨⟨w1, w2⟩, w3⟩, -⟩ := hw
  unfold eMul at hs
  split at hs
  · rename_i k n r
    obtain ⟨⟨rfl, rfl, hc1, hc2⟩, g⟩ := hs
    have e8 : (8 : Int32).toNatClampNeg = 8 := by decide
    subst hoc
    have z2 : (0 : Nat) < 2 := by decide
    have n12 : ¬ (12 : Nat) = 20 := by decide
    have n13 : ¬ (13 : Nat) = 20 := by decide
    intro T0 hT0 Xs
    obtain ⟨vm₁, cA, comp, -, fA, fC, hO, hI, X', step⟩ := Xs.multianewarray2F X.1 X.2.2.2.1 (X.2.2.2.2.1 _ (gw_in w1)) (X.2.2.2.2.2.1 _ (nw_in w2)) (X.2.2.2.2.1 _ (gw_in w3)) (g := F0 mm pc lsC (.int 8 :: .int 8 :: r.map (cv ad))) rfl (by rw [X.2.1]; exact hd) rfl (by decide) (by decide) (by decide) (by decide) (by decide) rfl rfl (by rw [e8]; omega) (by rw [e8]; omega)
    rw [e8] at X' step
    have hTh : (T0.setVm vm₁).heap = H := hT0
    generalize hF : Jvm.Free.Multi.fill (T0.setVm vm₁) cA comp 8 8 (defaultValue .int) 8 = F at X' step
    obtain ⟨f1, f2, -, -⟩ := Jvm.Free.Multi.fill_facts (T0.setVm vm₁) cA comp 8 8 (defaultValue .int) 8
    rw [hF, hTh] at f1 f2
    have hold : ∀ x : Nat, x < H.size → F.heap[x]? = H[x]? := fun x hx => by
      have := Jvm.Free.Multi.fill_old (T0.setVm vm₁) cA comp 8 8 (defaultValue .int) (a := x) (by rw [hTh]; exact hx) 8
      rw [hF, hTh] at this
      exact this
    have hrow : ∀ j : Nat, j < 8 → F.heap[H.size + 1 + j]? = some (arrV comp 8 (fun _ => .int 0)) := fun j hj => by
      have := Jvm.Free.Multi.fill_inner (T0.setVm vm₁) cA comp 8 8 (defaultValue .int) 8 j hj
      rw [hF, hTh] at this
      rw [this, ← arrV_new]
      rfl
    rw [nu_outer] at f2
    have hArO : ArrOfT s cA (.array .int) := fun N9 z9 => by
      obtain ⟨-, k9, hk9, cm9, hkk9⟩ := (hO 0 0 0).1
      exact ⟨(fun q hq => by cases hq), k9, hk9, cm9, hkk9⟩
    have hArI : ArrOfT s comp .int := fun N9 z9 => by
      obtain ⟨-, k9, hk9, cm9, hkk9⟩ := (hI 0 .null).1
      exact ⟨(fun q hq => by cases hq), k9, hk9, cm9, hkk9⟩
    obtain ⟨h1, h2, h3, h4, h5, h6⟩ := T.tl.tl
    have hB : B ≤ H.size := Nat.le_trans X.2.2.2.2.2.2.2.1 h2.1
    generalize hm' : al (al (rws m (0, 12, m.2.2.2 0 12) 13 (m.2.2.2 0 13) 8) 0 12 1) 0 13 8 = m' at g
    have cI : ∀ o k, gI m' o k = gI m o k := fun o k => by rw [← hm', gI_al, gI_al, gI_rws]
    have cL : ∀ o k, gL m' o k = gL m o k := fun o k => by rw [← hm', gL_al, gL_al, gL_rws]
    have cR : ∀ o k, gR m' o k = if o = (0, 12, m.2.2.2 0 12) then (if k < 8 then some (0, 13, m.2.2.2 0 13 + k) else none) else gR m o k := fun o k => by rw [← hm', gR_al, gR_al, gR_rws0]
    generalize hNew : (fun x : Id3 => x = (0, 12, m.2.2.2 0 12) ∨ (x.1 = 0 ∧ x.2.1 = 13 ∧ m.2.2.2 0 13 ≤ x.2.2 ∧ x.2.2 < m.2.2.2 0 13 + 8)) = New
    have hN : ∀ x, New x ↔ (x = (0, 12, m.2.2.2 0 12) ∨ (x.1 = 0 ∧ x.2.1 = 13 ∧ m.2.2.2 0 13 ≤ x.2.2 ∧ x.2.2 < m.2.2.2 0 13 + 8)) := fun x => by rw [← hNew]
    have hcnt : ∀ s t, m'.2.2.2 s t = if s = 0 ∧ t = 13 then m.2.2.2 0 13 + 8 else if s = 0 ∧ t = 12 then m.2.2.2 0 12 + 1 else m.2.2.2 s t := fun s t => by
      rw [← hm']
      show (if s = 0 ∧ t = 13 then (if s = 0 ∧ t = 12 then (rws m (0, 12, m.2.2.2 0 12) 13 (m.2.2.2 0 13) 8).2.2.2 s t + 1 else (rws m (0, 12, m.2.2.2 0 12) 13 (m.2.2.2 0 13) 8).2.2.2 s t) + 8 else if s = 0 ∧ t = 12 then (rws m (0, 12, m.2.2.2 0 12) 13 (m.2.2.2 0 13) 8).2.2.2 s t + 1 else (rws m (0, 12, m.2.2.2 0 12) 13 (m.2.2.2 0 13) 8).2.2.2 s t) = _
      rw [cnt_rws]
      by_cases q : s = 0 ∧ t = 13
      · obtain ⟨rfl, rfl⟩ := q
        simp
      · rw [if_neg q, if_neg q]
        by_cases q2 : s = 0 ∧ t = 12
        · obtain ⟨rfl, rfl⟩ := q2
          simp
        · rw [if_neg q2, if_neg q2]
    have hcase : ∀ x, alc m' x → alc m x ∨ New x := by
      rintro ⟨x1, x2, x3⟩ ⟨q1, q2, q30⟩
      have q3 : x3 < m'.2.2.2 x1 x2 := q30
      clear q30
      rw [hcnt] at q3
      rw [hN]
      by_cases r1 : x1 = 0 ∧ x2 = 13
      · rw [if_pos r1] at q3
        obtain ⟨rfl, rfl⟩ := r1
        by_cases r2 : x3 < m.2.2.2 0 13
        · exact Or.inl ⟨q1, q2, r2⟩
        · exact Or.inr (Or.inr ⟨rfl, rfl, Nat.not_lt.mp r2, q3⟩)
      · rw [if_neg r1] at q3
        by_cases r2 : x1 = 0 ∧ x2 = 12
        · rw [if_pos r2] at q3
          obtain ⟨rfl, rfl⟩ := r2
          by_cases r3 : x3 < m.2.2.2 0 12
          · exact Or.inl ⟨q1, q2, r3⟩
          · exact Or.inr (Or.inl (by rw [show x3 = m.2.2.2 0 12 by omega]))
        · rw [if_neg r2] at q3
          exact Or.inl ⟨q1, q2, q3⟩
    have hsub : ∀ x, alc m x → alc m' x := by
      rintro ⟨x1, x2, x3⟩ ⟨q1, q2, q3⟩
      refine ⟨q1, q2, ?_⟩
      have q3 : x3 < m.2.2.2 x1 x2 := q3
      show x3 < m'.2.2.2 x1 x2
      rw [hcnt]
      by_cases r1 : x1 = 0 ∧ x2 = 13
      · rw [if_pos r1]; rw [r1.1, r1.2] at q3; omega
      · rw [if_neg r1]
        by_cases r2 : x1 = 0 ∧ x2 = 12
        · rw [if_pos r2]; rw [r2.1, r2.2] at q3; omega
        · rw [if_neg r2]; exact q3
    have hnew : ∀ x, New x → alc m' x := by
      rintro ⟨x1, x2, x3⟩ hx
      rcases (hN _).mp hx with q | ⟨q1, q2, q3, q4⟩
      · cases q
        refine ⟨z2, fun q => n12 q.2, ?_⟩
        show m.2.2.2 0 12 < m'.2.2.2 0 12
        rw [hcnt, if_neg (by decide), if_pos ⟨rfl, rfl⟩]
        omega
      · dsimp only at q1 q2 q3 q4
        subst q1; subst q2
        refine ⟨z2, fun q => n13 q.2, ?_⟩
        show x3 < m'.2.2.2 0 13
        rw [hcnt, if_pos ⟨rfl, rfl⟩]
        exact q4
    let ad' : Id3 → Nat := fun x => if x = (0, 12, m.2.2.2 0 12) then H.size else if x.1 = 0 ∧ x.2.1 = 13 ∧ m.2.2.2 0 13 ≤ x.2.2 ∧ x.2.2 < m.2.2.2 0 13 + 8 then H.size + 1 + (x.2.2 - m.2.2.2 0 13) else ad x
    have a1 : ad' (0, 12, m.2.2.2 0 12) = H.size := if_pos rfl
    have a2 : ∀ j, j < 8 → ad' (0, 13, m.2.2.2 0 13 + j) = H.size + 1 + j := fun j hj => by
      show (if ((0, 13, m.2.2.2 0 13 + j) : Id3) = (0, 12, m.2.2.2 0 12) then H.size else if (0 = 0 ∧ 13 = 13 ∧ m.2.2.2 0 13 ≤ m.2.2.2 0 13 + j ∧ m.2.2.2 0 13 + j < m.2.2.2 0 13 + 8) then H.size + 1 + (m.2.2.2 0 13 + j - m.2.2.2 0 13) else ad (0, 13, m.2.2.2 0 13 + j)) = _
      rw [if_neg (fun q => by simp at q), if_pos ⟨rfl, rfl, by omega, by omega⟩]
      omega
    have a3 : ∀ x, ¬ New x → ad' x = ad x := fun x hx => by
      have := fun q => hx ((hN x).mpr q)
      show (if x = _ then _ else if _ then _ else _) = _
      rw [if_neg (fun q => this (Or.inl q)), if_neg (fun q => this (Or.inr q))]
    have hrel := h1.news (ad' := ad') (m' := m') (H1 := F.heap) (New := New) hcase hsub (fun x hx => by
        rcases (hN x).mp hx with rfl | ⟨q1, q2, q3, q4⟩
        · exact ⟨z2, fun q => n12 q.2, fun q => absurd q.2.2 (Nat.lt_irrefl _)⟩
        · obtain ⟨x1, x2, x3⟩ := x
          dsimp only at q1 q2 q3 q4
          subst q1; subst q2
          exact ⟨z2, fun q => n13 q.2, fun q => by have := q.2.2; dsimp only at this; omega⟩) a3 (fun x hx => by
        rcases (hN x).mp hx with rfl | ⟨q1, q2, q3, q4⟩
        · rw [a1]; exact Nat.le_refl _
        · obtain ⟨x1, x2, x3⟩ := x
          dsimp only at q1 q2 q3 q4
          subst q1; subst q2
          obtain ⟨j, rfl⟩ : ∃ j, x3 = m.2.2.2 0 13 + j := ⟨x3 - m.2.2.2 0 13, by omega⟩
          rw [a2 j (by omega)]
          omega) (fun x y hx hy e => by
        rcases (hN x).mp hx with rfl | ⟨q1, q2, q3, q4⟩ <;> rcases (hN y).mp hy with rfl | ⟨r1, r2, r3, r4⟩
        · rfl
        · obtain ⟨y1, y2, y3⟩ := y
          dsimp only at r1 r2 r3 r4
          subst r1; subst r2
          obtain ⟨j, rfl⟩ : ∃ j, y3 = m.2.2.2 0 13 + j := ⟨y3 - m.2.2.2 0 13, by omega⟩
          rw [a1, a2 j (by omega)] at e
          omega
        · obtain ⟨y1, y2, y3⟩ := x
          dsimp only at q1 q2 q3 q4
          subst q1; subst q2
          obtain ⟨j, rfl⟩ : ∃ j, y3 = m.2.2.2 0 13 + j := ⟨y3 - m.2.2.2 0 13, by omega⟩
          rw [a1, a2 j (by omega)] at e
          omega
        · obtain ⟨x1, x2, x3⟩ := x
          obtain ⟨y1, y2, y3⟩ := y
          dsimp only at q1 q2 q3 q4 r1 r2 r3 r4
          subst q1; subst q2; subst r1; subst r2
          obtain ⟨i, rfl⟩ : ∃ j, x3 = m.2.2.2 0 13 + j := ⟨x3 - m.2.2.2 0 13, by omega⟩
          obtain ⟨j, rfl⟩ : ∃ j, y3 = m.2.2.2 0 13 + j := ⟨y3 - m.2.2.2 0 13, by omega⟩
          rw [a2 i (by omega), a2 j (by omega)] at e
          rw [show i = j by omega]) hB hold cI cL (fun o k hn => by rw [cR, if_neg (fun q => hn ((hN o).mpr (Or.inl q)))]) (fun o k y hy => by
        rw [cR] at hy
        split at hy
        · split at hy
          · cases hy
            exact Or.inl (hnew _ ((hN _).mpr (Or.inr ⟨rfl, rfl, by dsimp only; omega, by dsimp only; omega⟩)))
          · cases hy
        · exact (h1.2.2.1 o k y hy).imp (hsub y) id) (fun o _ hn q => hn (hnew o q)) (fun x hx => by
        rcases (hN x).mp hx with rfl | ⟨q1, q2, q3, q4⟩
        · have hc0 : F.heap[ad' (0, 12, m.2.2.2 0 12)]? = some (arrV cA 8 (fun k => va_rf ((gR m' (0, 12, m.2.2.2 0 12) k).map ad'))) := by
            rw [a1, f2]
            congr 2
            funext k
            rw [cR, if_pos rfl]
            by_cases hk : k < 8
            · rw [if_pos hk, if_pos hk, Option.map_some, a2 k hk]
            · rw [if_neg hk, if_neg hk]; rfl
          exact ⟨⟨_, hc0⟩, fun q => absurd (show 26 < 8 from q) (by decide), fun q => absurd (show 26 = 20 from q) (by decide), fun q => absurd (show 26 = 21 from q) (by decide), fun _ _ => ⟨cA, hArO, fA, hc0⟩⟩
        · obtain ⟨x1, x2, x3⟩ := x
          dsimp only at q1 q2 q3 q4
          subst q1; subst q2
          obtain ⟨j, rfl⟩ : ∃ j, x3 = m.2.2.2 0 13 + j := ⟨x3 - m.2.2.2 0 13, by omega⟩
          have hz : ∀ k, gI m' (0, 13, m.2.2.2 0 13 + j) k = 0 := fun k => by
            rw [cI]
            exact (h1.2.2.2.1 (0, 13, m.2.2.2 0 13 + j) z2 (fun q => by have := q.2.2; dsimp only at this; omega) k).1
          have hc0 : F.heap[ad' (0, 13, m.2.2.2 0 13 + j)]? = some (arrV comp 8 (fun k => .int (gI m' (0, 13, m.2.2.2 0 13 + j) k))) := by
            rw [a2 j (by omega), hrow j (by omega)]
            congr 2
            funext k
            rw [hz]
          exact ⟨⟨_, hc0⟩, fun q => absurd (show 20 < 8 from q) (by decide), fun _ => ⟨comp, hArI, hc0⟩, fun q => absurd (show 20 = 21 from q) (by decide), fun q _ => absurd (show 22 ≤ 20 from q) (by decide)⟩)
    obtain ⟨hr1, hr2⟩ := hrel
    have hlm : ∀ x, live L m x → live L m' x := fun x hx => hx.imp (hsub x) id
    have T1 : ST B b L xs kd D s nL m0 ad0 ad' F.heap locs lsC ls (vo 0 12 (m.2.2.2 0 12) :: r) m' := by
      refine ⟨hr1, ⟨by rw [f1]; have := h2.1; omega, fun q q1 q2 => (hold q (Nat.lt_of_lt_of_le q1 h2.1)).trans (h2.2.1 q q1 q2), h2.2.2⟩, h3.ext hr2 h4, fun v hv z hz => hlm z (h4 v hv z hz), fun v hv => ?_, fun o ho => ⟨hsub o (h6 o ho).1, (hr2 o (Or.inl (h6 o ho).1)).trans (h6 o ho).2⟩⟩
      rcases List.mem_cons.mp hv with rfl | hv
      · intro z hz
        cases hz
        exact Or.inl (hnew _ ((hN _).mpr (Or.inl rfl)))
      · exact fun z hz => hlm z (h5 v hv z hz)
    have g2 := g _ hf ad' F.heap locs lsC T1
    rw [List.map_cons, cvs_ext hr2 h5] at g2
    have hv : cv ad' (vo 0 12 (m.2.2.2 0 12)) = .ref H.size := congrArg Value.ref a1
    rw [hv] at g2
    obtain ⟨t, b1, b2⟩ := g2 F rfl X'
    have hsz : T0.heap.size = H.size := by rw [hT0]
    rw [hsz] at step
    exact ⟨t, step t b1, b2⟩
  · exact absurd hs id
end TC
