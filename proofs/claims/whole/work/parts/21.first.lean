/-! Written by a program (wip/whole/p21.py): THE FIRST CONTRACTS. -/
abbrev b2 (p : Prop) [Decidable p] : Int32 := if p then 1 else 0
theorem kvi {K : Option Vv → Mem → Prop} {a b : Int32} {m : Mem} (e : a = b) (h : K (some (vi b)) m) : K (some (vi a)) m := e ▸ h
theorem kvl {K : Option Vv → Mem → Prop} {a b : Int64} {m : Mem} (e : a = b) (h : K (some (vl b)) m) : K (some (vl a)) m := e ▸ h
theorem ln3 : nI (ln (0, 3, 0)) = 6 := rfl
theorem ln4 : nI (ln (0, 4, 0)) = 4 := rfl
theorem ln6 : nI (ln (0, 6, 0)) = 3 := rfl
theorem ln7 (s : Nat) : nI (ln (0, 7, s)) = 8 := rfl
theorem ln9 (s : Nat) : nI (ln (0, 9, s)) = 40 := rfl
theorem ln17 : nI (ln (0, 17, 0)) = 256 := rfl
theorem vp_nI {k N : Nat} (h : k < N) (hN : N < 2 ^ 31) : vp_in (nI k) N := nI_in h hN
theorem vp_of {j : Int32} {N : Nat} (h0 : 0 ≤ j) (h1 : j.toNatClampNeg < N) : vp_in j N := by
  intro h
  rcases h with h | h
  · exact absurd h (Int32.not_lt.mpr h0)
  · omega

theorem m_M_in {d : Nat} {m : Mem} {K : Option Vv → Mem → Prop} (hR : OKR m) {v lo hi : Int32} (h : K (some (vi (b2 (lo ≤ v ∧ v ≤ hi)))) m) : cW (d + 1) n_M_in [vi v, vi lo, vi hi] m K := by
  refine w_M_in (Go.runR (callT_mono MT _) [] 200 hR ?_)
  refine And.intro (fun c2 => ?_) (fun c2 => ?_)
  · try dsimp only at c2
    refine And.intro (by first | exact Or.inl rfl | exact Or.inr rfl | grind) ?_
    exact kvi (by grind) h
  · try dsimp only at c2
    refine And.intro (fun c5 => ?_) (fun c5 => ?_)
    · try dsimp only at c5
      refine And.intro (by first | exact Or.inl rfl | exact Or.inr rfl | grind) ?_
      exact kvi (by grind) h
    · try dsimp only at c5
      refine And.intro (by first | exact Or.inl rfl | exact Or.inr rfl | grind) ?_
      exact kvi (by grind) h

theorem m_M_isRow {d : Nat} {m : Mem} {K : Option Vv → Mem → Prop} (hR : OKR m) {v : Int32} (h : K (some (vi (b2 (0 ≤ v ∧ v ≤ 5)))) m) : cW (d + 2) n_M_isRow [vi v] m K := by
  refine w_M_isRow (Go.runR (callT_mono MT _) [] 200 hR ?_)
  refine m_M_in (by repeat' (first | exact hR | apply OKR.pI | apply OKR.pL | apply OKR.cpI)) (And.intro (by repeat' (first | exact hR | apply OKR.pI | apply OKR.pL | apply OKR.cpI)) ?_)
  refine And.intro (by first | exact Or.inl rfl | exact Or.inr rfl | grind) ?_
  exact h

theorem m_M_isText {d : Nat} {m : Mem} {K : Option Vv → Mem → Prop} (hR : OKR m) {v : Int32} (h : K (some (vi (b2 (0 ≤ v ∧ v ≤ 3)))) m) : cW (d + 2) n_M_isText [vi v] m K := by
  refine w_M_isText (Go.runR (callT_mono MT _) [] 200 hR ?_)
  refine m_M_in (by repeat' (first | exact hR | apply OKR.pI | apply OKR.pL | apply OKR.cpI)) (And.intro (by repeat' (first | exact hR | apply OKR.pI | apply OKR.pL | apply OKR.cpI)) ?_)
  refine And.intro (by first | exact Or.inl rfl | exact Or.inr rfl | grind) ?_
  exact h

theorem m_X_isRow {d : Nat} {m : Mem} {K : Option Vv → Mem → Prop} (hR : OKR m) {v : Int32} (h : K (some (vi (b2 (0 ≤ v ∧ v ≤ 5)))) m) : cW (d + 1) n_X_isRow [vo 0 0 0, vi v] m K := by
  refine w_X_isRow (Go.runR (callT_mono MT _) [] 200 hR ?_)
  refine And.intro (fun c1 => ?_) (fun c1 => ?_)
  · try dsimp only at c1
    refine And.intro (by first | exact Or.inl rfl | exact Or.inr rfl | grind) ?_
    exact kvi (by grind [ln3]) h
  · try dsimp only at c1
    refine And.intro ⟨(by first | decide | assumption | omega), (by first | decide | assumption | omega)⟩ ?_
    refine And.intro (fun c6 => ?_) (fun c6 => ?_)
    · try dsimp only at c6
      refine And.intro (by first | exact Or.inl rfl | exact Or.inr rfl | grind) ?_
      exact kvi (by grind [ln3]) h
    · try dsimp only at c6
      refine And.intro (by first | exact Or.inl rfl | exact Or.inr rfl | grind) ?_
      exact kvi (by grind [ln3]) h

theorem m_X_isText {d : Nat} {m : Mem} {K : Option Vv → Mem → Prop} (hR : OKR m) {v : Int32} (h : K (some (vi (b2 (0 ≤ v ∧ v ≤ 3)))) m) : cW (d + 1) n_X_isText [vo 0 0 0, vi v] m K := by
  refine w_X_isText (Go.runR (callT_mono MT _) [] 200 hR ?_)
  refine And.intro (fun c1 => ?_) (fun c1 => ?_)
  · try dsimp only at c1
    refine And.intro (by first | exact Or.inl rfl | exact Or.inr rfl | grind) ?_
    exact kvi (by grind [ln4]) h
  · try dsimp only at c1
    refine And.intro ⟨(by first | decide | assumption | omega), (by first | decide | assumption | omega)⟩ ?_
    refine And.intro (fun c6 => ?_) (fun c6 => ?_)
    · try dsimp only at c6
      refine And.intro (by first | exact Or.inl rfl | exact Or.inr rfl | grind) ?_
      exact kvi (by grind [ln4]) h
    · try dsimp only at c6
      refine And.intro (by first | exact Or.inl rfl | exact Or.inr rfl | grind) ?_
      exact kvi (by grind [ln4]) h

theorem m_Ce_isMissing {d : Nat} {m : Mem} {K : Option Vv → Mem → Prop} (hR : OKR m) {c : Nat} (h : K (some (vi (b2 (gI m (0, 1, c) 1 = -1)))) m) : cW (d + 1) n_Ce_isMissing [vo 0 1 c] m K := by
  refine w_Ce_isMissing (Go.runR (callT_mono MT _) [] 200 hR ?_)
  refine And.intro (fun c3 => ?_) (fun c3 => ?_)
  · try dsimp only at c3
    refine And.intro (by first | exact Or.inl rfl | exact Or.inr rfl | grind) ?_
    exact kvi (by grind) h
  · try dsimp only at c3
    refine And.intro (by first | exact Or.inl rfl | exact Or.inr rfl | grind) ?_
    exact kvi (by grind) h

theorem m_Ce_has {d : Nat} {m : Mem} {K : Option Vv → Mem → Prop} (hR : OKR m) {c : Nat} {i : Int32} (h : K (some (vi (b2 (0 ≤ i ∧ i < gI m (0, 1, c) 1)))) m) : cW (d + 1) n_Ce_has [vo 0 1 c, vi i] m K := by
  refine w_Ce_has (Go.runR (callT_mono MT _) [] 200 hR ?_)
  refine And.intro (fun c1 => ?_) (fun c1 => ?_)
  · try dsimp only at c1
    refine And.intro (by first | exact Or.inl rfl | exact Or.inr rfl | grind) ?_
    exact kvi (by grind) h
  · try dsimp only at c1
    refine And.intro (fun c5 => ?_) (fun c5 => ?_)
    · try dsimp only at c5
      refine And.intro (by first | exact Or.inl rfl | exact Or.inr rfl | grind) ?_
      exact kvi (by grind) h
    · try dsimp only at c5
      refine And.intro (by first | exact Or.inl rfl | exact Or.inr rfl | grind) ?_
      exact kvi (by grind) h
