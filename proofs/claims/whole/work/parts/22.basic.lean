/-! Written by a program (wip/whole/p22.py): BASIC CONTRACTS. -/
theorem vp_lt {j : Int32} {N : Nat} (h0 : 0 ≤ j) (h1 : j < nI N) (hN : N < 2 ^ 31) : vp_in j N := by
  obtain ⟨a, ha, rfl⟩ := nI_of (Int32.not_lt.mpr h0)
  exact vp_nI ((nI_ltI ha hN).mp h1) hN
theorem fa6 : nI 6 = 6 := rfl
abbrev foundM (m : Mem) (f : Nat) : Mem := pI (pI m (0, 0, 0) 7 (nI f)) (0, 19, 0) f (gI m (0, 19, 0) f + 1)
abbrev meetM (m : Mem) (f : Nat) : Mem := pI (pI m (1, 0, 0) 0 (nI f)) (1, 1, 0) f (gI m (1, 1, 0) f + 1)
abbrev tellM (m : Mem) (v : Int32) : Mem := pI m (0, 0, 0) 8 v
abbrev askM (m : Mem) (v : Int32) : Mem := pI m (1, 0, 0) 2 v
theorem rd01 (m : Mem) (t i k : Nat) (v : Int32) (t' i' k' : Nat) : gI (pI m (0, t, i) k v) (1, t', i') k' = gI m (1, t', i') k' := rfl
theorem rd10 (m : Mem) (t i k : Nat) (v : Int32) (t' i' k' : Nat) : gI (pI m (1, t, i) k v) (0, t', i') k' = gI m (0, t', i') k' := rfl
theorem rd00 (m : Mem) (t i k : Nat) (v : Int32) (t' i' k' : Nat) : gI (pI m (0, t, i) k v) (0, t', i') k' = if t' = t ∧ i' = i ∧ k' = k then v else gI m (0, t', i') k' := rfl
theorem rd11 (m : Mem) (t i k : Nat) (v : Int32) (t' i' k' : Nat) : gI (pI m (1, t, i) k v) (1, t', i') k' = if t' = t ∧ i' = i ∧ k' = k then v else gI m (1, t', i') k' := rfl

theorem m_X_isWithin {d : Nat} {m : Mem} {K : Option Vv → Mem → Prop} (hR : OKR m) {v lo hi : Int32} (h : K (some (vi (b2 (lo ≤ v ∧ v ≤ hi)))) m) : cW (d + 1) n_X_isWithin [vi v, vi lo, vi hi] m K := by
  refine w_X_isWithin (Go.runR (callT_mono MT _) [] 200 hR ?_)
  refine And.intro (fun c2 => ?_) (fun c2 => ?_)
  · try dsimp only at c2
    refine And.intro (by first | exact Or.inl rfl | exact Or.inr rfl | grind) ?_
    exact kvi (by grind) h
  · try dsimp only at c2
    refine And.intro (fun c5 => ?_) (fun c5 => ?_)
    · try dsimp only at c5
      refine And.intro (by first | exact Or.inl rfl | exact Or.inr rfl | grind) ?_
      exact kvi (by grind) h
    · try dsimp only at c5
      refine And.intro (by first | exact Or.inl rfl | exact Or.inr rfl | grind) ?_
      exact kvi (by grind) h

theorem m_M_ask {d : Nat} {m : Mem} {K : Option Vv → Mem → Prop} (hR : OKR m) {v a : Int32} (h : K (some (vi a)) (askM m v)) : cW (d + 1) n_M_ask [vo 1 0 0, vi v, vi a] m K := by
  refine w_M_ask (Go.runR (callT_mono MT _) [] 200 hR ?_)
  refine And.intro trivial ?_
  exact h

theorem m_X_tell {d : Nat} {m : Mem} {K : Option Vv → Mem → Prop} (hR : OKR m) {v a : Int32} (h : K (some (vi a)) (tellM m v)) : cW (d + 1) n_X_tell [vo 0 0 0, vi v, vi a] m K := by
  refine w_X_tell (Go.runR (callT_mono MT _) [] 200 hR ?_)
  refine And.intro trivial ?_
  exact h

theorem m_M_meet1 {d : Nat} {m : Mem} {K : Option Vv → Mem → Prop} (hR : OKR m)  (h : K (some (vi (-3))) (meetM m 1)) : cW (d + 1) n_M_meet [vo 1 0 0, vi 1] m K := by
  refine w_M_meet (Go.runR (callT_mono MT _) [] 200 hR ?_)
  refine And.intro ⟨rfl, rfl, rfl⟩ ?_
  refine And.intro (vp_nI (k := 1) (by decide) (by decide)) ?_
  refine And.intro (vp_nI (k := 1) (by decide) (by decide)) ?_
  refine And.intro trivial ?_
  exact h

theorem m_X_found1 {d : Nat} {m : Mem} {K : Option Vv → Mem → Prop} (hR : OKR m)  (h : K (some (vi (-3))) (foundM m 1)) : cW (d + 2) n_X_found [vo 0 0 0, vi 1] m K := by
  refine w_X_found (Go.runR (callT_mono MT _) [] 200 hR ?_)
  refine m_X_isWithin (by repeat' (first | exact hR | apply OKR.pI | apply OKR.pL | apply OKR.cpI)) (And.intro (by repeat' (first | exact hR | apply OKR.pI | apply OKR.pL | apply OKR.cpI)) ?_)
  refine And.intro (fun c7 => ?_) (fun c7 => ?_)
  · try dsimp only at c7
    refine And.intro trivial ?_
    first | exact h | exact absurd c7 (by decide)
  · try dsimp only at c7
    refine And.intro ⟨(by first | decide | assumption | omega), (by first | decide | assumption | omega)⟩ ?_
    refine And.intro (vp_nI (k := 1) (by decide) (by decide)) ?_
    refine And.intro (vp_nI (k := 1) (by decide) (by decide)) ?_
    refine And.intro trivial ?_
    first | exact h | exact absurd c7 (by decide)

theorem m_M_meet2 {d : Nat} {m : Mem} {K : Option Vv → Mem → Prop} (hR : OKR m)  (h : K (some (vi (-3))) (meetM m 2)) : cW (d + 1) n_M_meet [vo 1 0 0, vi 2] m K := by
  refine w_M_meet (Go.runR (callT_mono MT _) [] 200 hR ?_)
  refine And.intro ⟨rfl, rfl, rfl⟩ ?_
  refine And.intro (vp_nI (k := 2) (by decide) (by decide)) ?_
  refine And.intro (vp_nI (k := 2) (by decide) (by decide)) ?_
  refine And.intro trivial ?_
  exact h

theorem m_X_found2 {d : Nat} {m : Mem} {K : Option Vv → Mem → Prop} (hR : OKR m)  (h : K (some (vi (-3))) (foundM m 2)) : cW (d + 2) n_X_found [vo 0 0 0, vi 2] m K := by
  refine w_X_found (Go.runR (callT_mono MT _) [] 200 hR ?_)
  refine m_X_isWithin (by repeat' (first | exact hR | apply OKR.pI | apply OKR.pL | apply OKR.cpI)) (And.intro (by repeat' (first | exact hR | apply OKR.pI | apply OKR.pL | apply OKR.cpI)) ?_)
  refine And.intro (fun c7 => ?_) (fun c7 => ?_)
  · try dsimp only at c7
    refine And.intro trivial ?_
    first | exact h | exact absurd c7 (by decide)
  · try dsimp only at c7
    refine And.intro ⟨(by first | decide | assumption | omega), (by first | decide | assumption | omega)⟩ ?_
    refine And.intro (vp_nI (k := 2) (by decide) (by decide)) ?_
    refine And.intro (vp_nI (k := 2) (by decide) (by decide)) ?_
    refine And.intro trivial ?_
    first | exact h | exact absurd c7 (by decide)

theorem m_M_meet3 {d : Nat} {m : Mem} {K : Option Vv → Mem → Prop} (hR : OKR m)  (h : K (some (vi (-3))) (meetM m 3)) : cW (d + 1) n_M_meet [vo 1 0 0, vi 3] m K := by
  refine w_M_meet (Go.runR (callT_mono MT _) [] 200 hR ?_)
  refine And.intro ⟨rfl, rfl, rfl⟩ ?_
  refine And.intro (vp_nI (k := 3) (by decide) (by decide)) ?_
  refine And.intro (vp_nI (k := 3) (by decide) (by decide)) ?_
  refine And.intro trivial ?_
  exact h

theorem m_X_found3 {d : Nat} {m : Mem} {K : Option Vv → Mem → Prop} (hR : OKR m)  (h : K (some (vi (-3))) (foundM m 3)) : cW (d + 2) n_X_found [vo 0 0 0, vi 3] m K := by
  refine w_X_found (Go.runR (callT_mono MT _) [] 200 hR ?_)
  refine m_X_isWithin (by repeat' (first | exact hR | apply OKR.pI | apply OKR.pL | apply OKR.cpI)) (And.intro (by repeat' (first | exact hR | apply OKR.pI | apply OKR.pL | apply OKR.cpI)) ?_)
  refine And.intro (fun c7 => ?_) (fun c7 => ?_)
  · try dsimp only at c7
    refine And.intro trivial ?_
    first | exact h | exact absurd c7 (by decide)
  · try dsimp only at c7
    refine And.intro ⟨(by first | decide | assumption | omega), (by first | decide | assumption | omega)⟩ ?_
    refine And.intro (vp_nI (k := 3) (by decide) (by decide)) ?_
    refine And.intro (vp_nI (k := 3) (by decide) (by decide)) ?_
    refine And.intro trivial ?_
    first | exact h | exact absurd c7 (by decide)

theorem m_M_meet4 {d : Nat} {m : Mem} {K : Option Vv → Mem → Prop} (hR : OKR m)  (h : K (some (vi (-3))) (meetM m 4)) : cW (d + 1) n_M_meet [vo 1 0 0, vi 4] m K := by
  refine w_M_meet (Go.runR (callT_mono MT _) [] 200 hR ?_)
  refine And.intro ⟨rfl, rfl, rfl⟩ ?_
  refine And.intro (vp_nI (k := 4) (by decide) (by decide)) ?_
  refine And.intro (vp_nI (k := 4) (by decide) (by decide)) ?_
  refine And.intro trivial ?_
  exact h

theorem m_X_found4 {d : Nat} {m : Mem} {K : Option Vv → Mem → Prop} (hR : OKR m)  (h : K (some (vi (-3))) (foundM m 4)) : cW (d + 2) n_X_found [vo 0 0 0, vi 4] m K := by
  refine w_X_found (Go.runR (callT_mono MT _) [] 200 hR ?_)
  refine m_X_isWithin (by repeat' (first | exact hR | apply OKR.pI | apply OKR.pL | apply OKR.cpI)) (And.intro (by repeat' (first | exact hR | apply OKR.pI | apply OKR.pL | apply OKR.cpI)) ?_)
  refine And.intro (fun c7 => ?_) (fun c7 => ?_)
  · try dsimp only at c7
    refine And.intro trivial ?_
    first | exact h | exact absurd c7 (by decide)
  · try dsimp only at c7
    refine And.intro ⟨(by first | decide | assumption | omega), (by first | decide | assumption | omega)⟩ ?_
    refine And.intro (vp_nI (k := 4) (by decide) (by decide)) ?_
    refine And.intro (vp_nI (k := 4) (by decide) (by decide)) ?_
    refine And.intro trivial ?_
    first | exact h | exact absurd c7 (by decide)

theorem m_M_meet5 {d : Nat} {m : Mem} {K : Option Vv → Mem → Prop} (hR : OKR m)  (h : K (some (vi (-3))) (meetM m 5)) : cW (d + 1) n_M_meet [vo 1 0 0, vi 5] m K := by
  refine w_M_meet (Go.runR (callT_mono MT _) [] 200 hR ?_)
  refine And.intro ⟨rfl, rfl, rfl⟩ ?_
  refine And.intro (vp_nI (k := 5) (by decide) (by decide)) ?_
  refine And.intro (vp_nI (k := 5) (by decide) (by decide)) ?_
  refine And.intro trivial ?_
  exact h

theorem m_X_found5 {d : Nat} {m : Mem} {K : Option Vv → Mem → Prop} (hR : OKR m)  (h : K (some (vi (-3))) (foundM m 5)) : cW (d + 2) n_X_found [vo 0 0 0, vi 5] m K := by
  refine w_X_found (Go.runR (callT_mono MT _) [] 200 hR ?_)
  refine m_X_isWithin (by repeat' (first | exact hR | apply OKR.pI | apply OKR.pL | apply OKR.cpI)) (And.intro (by repeat' (first | exact hR | apply OKR.pI | apply OKR.pL | apply OKR.cpI)) ?_)
  refine And.intro (fun c7 => ?_) (fun c7 => ?_)
  · try dsimp only at c7
    refine And.intro trivial ?_
    first | exact h | exact absurd c7 (by decide)
  · try dsimp only at c7
    refine And.intro ⟨(by first | decide | assumption | omega), (by first | decide | assumption | omega)⟩ ?_
    refine And.intro (vp_nI (k := 5) (by decide) (by decide)) ?_
    refine And.intro (vp_nI (k := 5) (by decide) (by decide)) ?_
    refine And.intro trivial ?_
    first | exact h | exact absurd c7 (by decide)

theorem m_M_rowAt {d : Nat} {m : Mem} {K : Option Vv → Mem → Prop} (hR : OKR m) {a b : Nat} (ha : a < 6) (hb : b < 40) (h : K (some (vi (gI m (1, 3, 0) (40 * a + b)))) m) : cW (d + 1) n_M_rowAt [vo 1 0 0, vi (nI a), vi (nI b)] m K := by
  have e1 : (40 : Int32) * nI a + nI b = nI (40 * a + b) := by rw [show (40 : Int32) = nI 40 from rfl, pk_mul, nI_add]
  refine w_M_rowAt (Go.runR (callT_mono MT _) [] 200 hR ?_)
  refine And.intro ⟨rfl, rfl, rfl⟩ ?_
  refine And.intro (by dsimp only; rw [e1]; exact vp_nI (N := 240) (by omega) (by decide)) ?_
  refine And.intro trivial ?_
  exact kvi (by dsimp only; rw [e1, nI_clamp (by omega)]) h

theorem m_M_setRow {d : Nat} {m : Mem} {K : Option Vv → Mem → Prop} (hR : OKR m) {a b : Nat} {v : Int32} (ha : a < 6) (hb : b < 40) (h : K none (pI m (1, 3, 0) (40 * a + b) v)) : cW (d + 1) n_M_setRow [vo 1 0 0, vi (nI a), vi (nI b), vi v] m K := by
  have e1 : (40 : Int32) * nI a + nI b = nI (40 * a + b) := by rw [show (40 : Int32) = nI 40 from rfl, pk_mul, nI_add]
  refine w_M_setRow (Go.runR (callT_mono MT _) [] 200 hR ?_)
  refine And.intro ⟨rfl, rfl, rfl⟩ ?_
  refine And.intro (by dsimp only; rw [e1]; exact vp_nI (N := 240) (by omega) (by decide)) ?_
  refine And.intro trivial ?_
  dsimp only; rw [e1, nI_clamp (by omega)]; exact h

theorem m_M_askedRow {d : Nat} {m : Mem} {K : Option Vv → Mem → Prop} (hR : OKR m) {r : Int32} (hb : ¬ (0 ≤ r ∧ r ≤ 5) → K (some (vi (-1))) m) (hm : (0 ≤ r ∧ r ≤ 5) → gI m (1, 2, 0) r.toNatClampNeg < 0 → K (some (vi (-3))) (meetM m 1)) (h : (0 ≤ r ∧ r ≤ 5) → 0 ≤ gI m (1, 2, 0) r.toNatClampNeg → K (some (vi 0)) m) : cW (d + 3) n_M_askedRow [vo 1 0 0, vi r] m K := by
  refine w_M_askedRow (Go.runR (callT_mono MT _) [] 200 hR ?_)
  refine m_M_isRow (by repeat' (first | exact hR | apply OKR.pI | apply OKR.pL | apply OKR.cpI)) (And.intro (by repeat' (first | exact hR | apply OKR.pI | apply OKR.pL | apply OKR.cpI)) ?_)
  refine And.intro (fun c2 => ?_) (fun c2 => ?_)
  · try dsimp only at c2
    refine And.intro trivial ?_
    first | exact hb (by grind) | exact hm (by grind) (by grind) | exact h (by grind) (by grind)
  · try dsimp only at c2
    refine And.intro ⟨rfl, rfl, rfl⟩ ?_
    refine And.intro (vp_lt (N := 6) (by grind) (by grind [fa6]) (by decide)) ?_
    refine And.intro (fun c9 => ?_) (fun c9 => ?_)
    · try dsimp only at c9
      refine And.intro trivial ?_
      first | exact hb (by grind) | exact hm (by grind) (by grind) | exact h (by grind) (by grind)
    · try dsimp only at c9
      refine m_M_meet1 (by repeat' (first | exact hR | apply OKR.pI | apply OKR.pL | apply OKR.cpI)) (And.intro (by repeat' (first | exact hR | apply OKR.pI | apply OKR.pL | apply OKR.cpI)) ?_)
      refine And.intro trivial ?_
      first | exact hb (by grind) | exact hm (by grind) (by grind) | exact h (by grind) (by grind)
