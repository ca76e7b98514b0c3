/-! Written by a program (wip/whole/p24.py): rows, at. -/
theorem fa5 : nI 5 = 5 := rfl
theorem fa40 : nI 40 = 40 := rfl
theorem row_of {r : Int32} (c : ¬ b2 (0 ≤ r ∧ r ≤ 5) = 0) : ∃ a, a < 6 ∧ r = nI a := by
  have h : 0 ≤ r ∧ r ≤ 5 := by grind
  obtain ⟨j, h1, h2⟩ := nI_of2 (M := 5) (n := 5) rfl (Int32.not_lt.mpr h.1) h.2
  exact ⟨j, by omega, h2⟩
theorem ln2_lt (c : Nat) : ln (0, 2, c) < 2 ^ 31 := by
  show (if c < 6 then 40 else 80) < 2 ^ 31
  split <;> decide

theorem m_Ce_get {d : Nat} {m : Mem} {K : Option Vv → Mem → Prop} (hR : OKR m) {c : Nat} {i : Int32} (hc : c < 10) (hs : gI m (0, 1, c) 1 ≤ nI (ln (0, 2, c))) (h : K (some (vi (if 0 ≤ i ∧ i < gI m (0, 1, c) 1 then gI m (0, 2, c) i.toNatClampNeg else 0))) m) : cW (d + 2) n_Ce_get [vo 0 1 c, vi i] m K := by
  refine w_Ce_get (Go.runR (callT_mono MT _) [] 200 hR ?_)
  refine m_Ce_has (by repeat' (first | exact hR | apply OKR.pI | apply OKR.pL | apply OKR.cpI)) (And.intro (by repeat' (first | exact hR | apply OKR.pI | apply OKR.pL | apply OKR.cpI)) ?_)
  refine And.intro (fun c3 => ?_) (fun c3 => ?_)
  · try dsimp only at c3
    refine And.intro trivial ?_
    exact kvi (by grind) h
  · try dsimp only at c3
    refine And.intro ⟨(by first | decide | assumption | omega), (by first | decide | assumption | omega)⟩ ?_
    refine And.intro (vp_lt (by grind) (by grind) (ln2_lt c)) ?_
    refine And.intro trivial ?_
    exact kvi (by grind) h

theorem m_X_refusalOfPlace {d : Nat} {m : Mem} {K : Option Vv → Mem → Prop} (hR : OKR m) {c : Nat} {i : Int32} (hm : gI m (0, 1, c) 1 = -1 → K (some (vi (-3))) (foundM m 1)) (hy : gI m (0, 1, c) 1 ≠ -1 → ¬ (0 ≤ i ∧ i < gI m (0, 1, c) 1) → K (some (vi (-3))) (foundM m 2)) (h : gI m (0, 1, c) 1 ≠ -1 → (0 ≤ i ∧ i < gI m (0, 1, c) 1) → K (some (vi 0)) m) : cW (d + 3) n_X_refusalOfPlace [vo 0 0 0, vo 0 1 c, vi i] m K := by
  refine w_X_refusalOfPlace (Go.runR (callT_mono MT _) [] 200 hR ?_)
  refine m_Ce_isMissing (by repeat' (first | exact hR | apply OKR.pI | apply OKR.pL | apply OKR.cpI)) (And.intro (by repeat' (first | exact hR | apply OKR.pI | apply OKR.pL | apply OKR.cpI)) ?_)
  refine And.intro (fun c2 => ?_) (fun c2 => ?_)
  · try dsimp only at c2
    refine m_Ce_has (by repeat' (first | exact hR | apply OKR.pI | apply OKR.pL | apply OKR.cpI)) (And.intro (by repeat' (first | exact hR | apply OKR.pI | apply OKR.pL | apply OKR.cpI)) ?_)
    refine And.intro (fun c10 => ?_) (fun c10 => ?_)
    · try dsimp only at c10
      refine m_X_found2 (by repeat' (first | exact hR | apply OKR.pI | apply OKR.pL | apply OKR.cpI)) (And.intro (by repeat' (first | exact hR | apply OKR.pI | apply OKR.pL | apply OKR.cpI)) ?_)
      refine And.intro trivial ?_
      first | exact hy (by grind) (by grind) | exact h (by grind) (by grind)
    · try dsimp only at c10
      refine And.intro trivial ?_
      first | exact hy (by grind) (by grind) | exact h (by grind) (by grind)
  · try dsimp only at c2
    refine m_X_found1 (by repeat' (first | exact hR | apply OKR.pI | apply OKR.pL | apply OKR.cpI)) (And.intro (by repeat' (first | exact hR | apply OKR.pI | apply OKR.pL | apply OKR.cpI)) ?_)
    refine And.intro trivial ?_
    exact hm (by grind)

theorem m_X_at {d : Nat} {m : Mem} {K : Option Vv → Mem → Prop} (hR : OKR m) {r i : Int32} (hs : ∀ a, a < 6 → gI m (0, 1, a) 1 ≤ nI 40) (hb : ¬ (0 ≤ r ∧ r ≤ 5) → K (some (vi (-1))) m) (hm : ∀ a, a < 6 → r = nI a → gI m (0, 1, a) 1 = -1 → K (some (vi (-3))) (foundM m 1)) (hy : ∀ a, a < 6 → r = nI a → gI m (0, 1, a) 1 ≠ -1 → ¬ (0 ≤ i ∧ i < gI m (0, 1, a) 1) → K (some (vi (-3))) (foundM m 2)) (h : ∀ a, a < 6 → r = nI a → gI m (0, 1, a) 1 ≠ -1 → (0 ≤ i ∧ i < gI m (0, 1, a) 1) → K (some (vi 1)) (tellM m (gI m (0, 2, a) i.toNatClampNeg))) : cW (d + 4) n_X_at [vo 0 0 0, vi r, vi i] m K := by
  refine w_X_at (Go.runR (callT_mono MT _) [] 200 hR ?_)
  refine m_X_isRow (by repeat' (first | exact hR | apply OKR.pI | apply OKR.pL | apply OKR.cpI)) (And.intro (by repeat' (first | exact hR | apply OKR.pI | apply OKR.pL | apply OKR.cpI)) ?_)
  refine And.intro (fun c3 => ?_) (fun c3 => ?_)
  · try dsimp only at c3
    refine And.intro trivial ?_
    exact hb (by grind)
  · try dsimp only at c3
    obtain ⟨a, ha, rfl⟩ := row_of c3
    have e0 : (nI a).toNatClampNeg = a := nI_clamp (by omega)
    refine And.intro ⟨(by first | decide | assumption | omega), (by first | decide | assumption | omega)⟩ ?_
    refine And.intro ⟨(by first | assumption | exact vp_nI (by dsimp only [ln, ln0, ln1]; omega) (by decide) | exact vp_lt (by grind) (by grind) (by decide)), ⟨rfl, by rw [e0]; exact ha⟩⟩ ?_
    refine m_X_refusalOfPlace (by repeat' (first | exact hR | apply OKR.pI | apply OKR.pL | apply OKR.cpI)) (fun q => And.intro (by repeat' (first | exact hR | apply OKR.pI | apply OKR.pL | apply OKR.cpI)) ?_) (fun q1 q2 => And.intro (by repeat' (first | exact hR | apply OKR.pI | apply OKR.pL | apply OKR.cpI)) ?_) (fun q1 q2 => And.intro (by repeat' (first | exact hR | apply OKR.pI | apply OKR.pL | apply OKR.cpI)) ?_)
    · refine And.intro (fun c15 => absurd c15 (by decide)) (fun c15 => And.intro trivial ?_)
      exact hm a ha rfl (by rw [e0] at q; exact q)
    · refine And.intro (fun c15 => absurd c15 (by decide)) (fun c15 => And.intro trivial ?_)
      exact hy a ha rfl (by rw [e0] at q1; exact q1) (by rw [e0] at q2; exact q2)
    · refine And.intro (fun c15 => ?_) (fun c15 => absurd rfl c15)
      refine And.intro ⟨(by decide), (by decide)⟩ ?_
      refine And.intro ⟨(vp_nI (N := 6) ha (by decide)), ⟨rfl, by rw [e0]; exact ha⟩⟩ ?_
      refine m_Ce_get (by repeat' (first | exact hR | apply OKR.pI | apply OKR.pL | apply OKR.cpI)) (by rw [e0]; omega) (by rw [e0]; have := hs a ha; rw [show ln (0, 2, a) = 40 from if_pos ha]; exact this) (And.intro (by repeat' (first | exact hR | apply OKR.pI | apply OKR.pL | apply OKR.cpI)) ?_)
      refine m_X_tell (by repeat' (first | exact hR | apply OKR.pI | apply OKR.pL | apply OKR.cpI)) (And.intro (by repeat' (first | exact hR | apply OKR.pI | apply OKR.pL | apply OKR.cpI)) ?_)
      refine And.intro trivial ?_
      rw [e0] at q1 q2 ⊢
      rw [if_pos q2]
      exact h a ha rfl q1 q2

theorem row_of2 {r : Int32} (h : 0 ≤ r ∧ r ≤ 5) : ∃ a, a < 6 ∧ r = nI a := by
  obtain ⟨j, h1, h2⟩ := nI_of2 (M := 5) (n := 5) rfl (Int32.not_lt.mpr h.1) h.2
  exact ⟨j, by omega, h2⟩
theorem below_of {i z : Int32} {n : Nat} (h : 0 ≤ i ∧ i ≤ z - 1) (h0 : 0 ≤ z) (hz : z ≤ nI n) (hn : n < 2 ^ 31) : ∃ j, j < n ∧ i = nI j ∧ nI j < z := by
  obtain ⟨j, hj, rfl⟩ := nI_of (Int32.not_lt.mpr h.1)
  obtain ⟨k, hk, rfl⟩ := nI_of (Int32.not_lt.mpr h0)
  have h2 : nI j < nI k := by grind
  exact ⟨j, Nat.lt_of_lt_of_le ((nI_ltI hj hk).mp h2) ((nI_leI hk hn).mp hz), rfl, h2⟩

theorem m_M_at {d : Nat} {m : Mem} {K : Option Vv → Mem → Prop} (hR : OKR m) {r i : Int32} (hs : ∀ a, a < 6 → gI m (1, 2, 0) a ≤ nI 40) (hb : ¬ (0 ≤ r ∧ r ≤ 5) → K (some (vi (-1))) m) (hm : ∀ a, a < 6 → r = nI a → gI m (1, 2, 0) a < 0 → K (some (vi (-3))) (meetM m 1)) (hy : ∀ a, a < 6 → r = nI a → 0 ≤ gI m (1, 2, 0) a → ¬ (0 ≤ i ∧ i < gI m (1, 2, 0) a) → K (some (vi (-3))) (meetM m 2)) (h : ∀ a j, a < 6 → j < 40 → r = nI a → i = nI j → nI j < gI m (1, 2, 0) a → K (some (vi 1)) (askM m (gI m (1, 3, 0) (40 * a + j)))) : cW (d + 4) n_M_at [vo 1 0 0, vi r, vi i] m K := by
  refine w_M_at (Go.runR (callT_mono MT _) [] 200 hR ?_)
  refine m_M_askedRow (by repeat' (first | exact hR | apply OKR.pI | apply OKR.pL | apply OKR.cpI)) (fun q => And.intro (by repeat' (first | exact hR | apply OKR.pI | apply OKR.pL | apply OKR.cpI)) ?_) (fun q1 q2 => And.intro (by repeat' (first | exact hR | apply OKR.pI | apply OKR.pL | apply OKR.cpI)) ?_) (fun q1 q2 => And.intro (by repeat' (first | exact hR | apply OKR.pI | apply OKR.pL | apply OKR.cpI)) ?_)
  · refine And.intro (fun c5 => ?_) (fun c5 => ?_)
    · first | exact absurd c5 (by decide) | exact absurd (by decide) c5 | (exfalso; grind)
    · try dsimp only at c5
      refine And.intro trivial ?_
      exact hb q
  · obtain ⟨a, ha, rfl⟩ := row_of2 q1; have e0 : (nI a).toNatClampNeg = a := nI_clamp (by omega); rw [e0] at q2
    refine And.intro (fun c5 => ?_) (fun c5 => ?_)
    · first | exact absurd c5 (by decide) | exact absurd (by decide) c5 | (exfalso; grind)
    · try dsimp only at c5
      refine And.intro trivial ?_
      exact hm a ha rfl q2
  · obtain ⟨a, ha, rfl⟩ := row_of2 q1; have e0 : (nI a).toNatClampNeg = a := nI_clamp (by omega); rw [e0] at q2
    refine And.intro (fun c5 => ?_) (fun c5 => ?_)
    · try dsimp only at c5
      refine And.intro ⟨rfl, rfl, rfl⟩ ?_
      refine And.intro (vp_nI (N := 6) ha (by decide)) ?_
      refine m_M_in (by repeat' (first | exact hR | apply OKR.pI | apply OKR.pL | apply OKR.cpI)) (And.intro (by repeat' (first | exact hR | apply OKR.pI | apply OKR.pL | apply OKR.cpI)) ?_)
      refine And.intro (fun c17 => ?_) (fun c17 => ?_)
      · try dsimp only at c17
        refine m_M_meet2 (by repeat' (first | exact hR | apply OKR.pI | apply OKR.pL | apply OKR.cpI)) (And.intro (by repeat' (first | exact hR | apply OKR.pI | apply OKR.pL | apply OKR.cpI)) ?_)
        refine And.intro trivial ?_
        first | exact hy a ha rfl q2 (by rw [e0] at c17; grind) | exact h a j ha hj rfl rfl hj2
      · try dsimp only at c17
        obtain ⟨j, hj, rfl, hj2⟩ := below_of (i := i) (z := gI m (1, 2, 0) a) (n := 40) (by rw [e0] at c17; grind) q2 (hs a ha) (by decide)
        refine m_M_rowAt (by repeat' (first | exact hR | apply OKR.pI | apply OKR.pL | apply OKR.cpI)) ha hj (And.intro (by repeat' (first | exact hR | apply OKR.pI | apply OKR.pL | apply OKR.cpI)) ?_)
        refine m_M_ask (by repeat' (first | exact hR | apply OKR.pI | apply OKR.pL | apply OKR.cpI)) (And.intro (by repeat' (first | exact hR | apply OKR.pI | apply OKR.pL | apply OKR.cpI)) ?_)
        refine And.intro trivial ?_
        first | exact hy a ha rfl q2 (by rw [e0] at c17; grind) | exact h a j ha hj rfl rfl hj2
    · exact absurd (by decide) c5

theorem RowsR.le {m : Mem} (R : RowsR m) : ∀ a, a < 6 → gI m (0, 1, a) 1 ≤ nI 40 := by
  intro a ha
  rcases R a ha with h | ⟨n, h1, h2, -⟩
  · rw [h.1]; decide
  · rw [h2]; exact nI_le h1 (by decide)
theorem RowsR.le2 {m : Mem} (R : RowsR m) : ∀ a, a < 6 → gI m (1, 2, 0) a ≤ nI 40 := by
  intro a ha
  rcases R a ha with h | ⟨n, h1, -, h2, -⟩
  · rw [h.2]; decide
  · rw [h2]; exact nI_le h1 (by decide)
theorem nI_in1 {a b : Nat} (ha : a < 2 ^ 31) (hb : b < 2 ^ 31) (h : nI a = nI b) : a = b := (nI_eq ha hb).mp h
theorem szneg {n : Nat} (h : n ≤ 80) : ¬ nI n < 0 ∧ 0 ≤ nI n ∧ nI n ≠ -1 := ⟨nI_pos (by omega), nI_pos' (by omega), fun e => absurd (nI_pos' (n := n) (by omega)) (by rw [e]; decide)⟩
theorem p_at {d : Nat} {m : Mem} {K : Option Vv → Option Vv → Mem → Prop} (R : RelAB m) {r i : Int32} (h : ∀ v m', RelAB m' → K v v m') : cW (d + 4) n_X_at [vo 0 0 0, vi r, vi i] m (fun v m1 => cW (d + 4) n_M_at [vo 1 0 0, vi r, vi i] m1 (fun w m2 => K v w m2)) := by
  have hA := R.2.1
  have hok := R.1
  refine m_X_at hok hA.le (fun q => ?_) (fun a ha e q => ?_) (fun a ha e q1 q2 => ?_) (fun a ha e q1 q2 => ?_)
  · exact m_M_at hok hA.le2 (fun _ => h _ _ R) (fun b hb e2 => absurd ⟨by rw [e2]; exact nI_pos' (by omega), by rw [e2]; exact nI_le (b := 5) (by omega) (by decide)⟩ q) (fun b hb e2 => absurd ⟨by rw [e2]; exact nI_pos' (by omega), by rw [e2]; exact nI_le (b := 5) (by omega) (by decide)⟩ q) (fun b j hb hj e2 => absurd ⟨by rw [e2]; exact nI_pos' (by omega), by rw [e2]; exact nI_le (b := 5) (by omega) (by decide)⟩ q)
  all_goals
    subst e
    have hr : 0 ≤ nI a ∧ nI a ≤ 5 := ⟨nI_pos' (by omega), nI_le (b := 5) (by omega) (by decide)⟩
    have hx : ∀ b, b < 6 → nI a = nI b → a = b := fun b hb e2 => nI_in1 (by omega) (by omega) e2
    have hAa := hA a ha
  · have s1 : gI m (1, 2, 0) a = -9 := by
      rcases hAa with hh | ⟨n, h1, h2, -⟩
      · exact hh.2
      · exact absurd (h2.symm.trans q) (szneg (by omega)).2.2
    refine m_M_at (m := foundM m 1) hok.pI.pI hA.le2 (fun z => absurd hr z) (fun b hb e2 z => h _ _ (R.meet (by omega) (by omega))) (fun b hb e2 z => ?_) (fun b j hb hj e2 e3 z => ?_)
    · obtain rfl := hx b hb e2
      have z : 0 ≤ gI m (1, 2, 0) a := z
      rw [s1] at z
      exact absurd z (by decide)
    · obtain rfl := hx b hb e2
      have z : nI j < gI m (1, 2, 0) a := z
      rw [s1] at z
      exact absurd z (fun y => by have := nI_pos' (n := j) (by omega); have := Int32.lt_of_le_of_lt this y; exact absurd this (by decide))
  · rcases hAa with hh | ⟨n, h1, h2, h3, h4⟩
    · exact absurd hh.1 q1
    rw [h2] at q2
    refine m_M_at (m := foundM m 2) hok.pI.pI hA.le2 (fun z => absurd hr z) (fun b hb e2 z => ?_) (fun b hb e2 z y => h _ _ (R.meet (by omega) (by omega))) (fun b j hb hj e2 e3 z => ?_)
    · obtain rfl := hx b hb e2
      have z : gI m (1, 2, 0) a < 0 := z
      rw [h3] at z
      exact absurd z (szneg (by omega)).1
    · obtain rfl := hx b hb e2
      have z : nI j < gI m (1, 2, 0) a := z
      rw [h3] at z
      exact absurd ⟨by rw [e3]; exact nI_pos' (by omega), by rw [e3]; exact z⟩ q2
  · rcases hAa with hh | ⟨n, h1, h2, h3, h4⟩
    · exact absurd hh.1 q1
    rw [h2] at q2
    refine m_M_at (m := tellM m (gI m (0, 2, a) i.toNatClampNeg)) hok.pI hA.le2 (fun z => absurd hr z) (fun b hb e2 z => ?_) (fun b hb e2 z y => ?_) (fun b j hb hj e2 e3 z => ?_)
    · obtain rfl := hx b hb e2
      have z : gI m (1, 2, 0) a < 0 := z
      rw [h3] at z
      exact absurd z (szneg (by omega)).1
    · obtain rfl := hx b hb e2
      have y : ¬ (0 ≤ i ∧ i < gI m (1, 2, 0) a) := y
      rw [h3] at y
      exact absurd q2 y
    · obtain rfl := hx b hb e2
      have z : nI j < gI m (1, 2, 0) a := z
      rw [h3] at z
      have hjn : j < n := (nI_ltI (by omega) (by omega)).mp z
      subst e3
      rw [nI_clamp (by omega), h4 j hjn]
      exact h _ _ (R.tell _)
