/-! Written by a program (wip/whole/p24.py): rows, at. -/
theorem fa5 : nI 5 = 5 := rfl
theorem fa40 : nI 40 = 40 := rfl
theorem row_of {r : Int32} (c : ¬ b2 (0 ≤ r ∧ r ≤ 5) = 0) : ∃ a, a < 6 ∧ r = nI a := by
  have h : 0 ≤ r ∧ r ≤ 5 := by grind
  obtain ⟨j, h1, h2⟩ := nI_of2 (M := 5) (n := 5) rfl (Int32.not_lt.mpr h.1) h.2
  exact ⟨j, by omega, h2⟩
theorem ln2_lt (c : Nat) : ln (0, 2, c) < 2 ^ 31 := by
  show (if c < 6 then 40 else 80) < 2 ^ 31
  split <;> decide

theorem m_Ce_get {d : Nat} {m : Mem} {K : Option Vv → Mem → Prop} (hR : OKR m) {c : Nat} {i : Int32} (hc : c < 10) (hs : gI m (0, 1, c) 1 ≤ nI (ln (0, 2, c))) (h : K (some (vi (if 0 ≤ i ∧ i < gI m (0, 1, c) 1 then gI m (0, 2, c) i.toNatClampNeg else 0))) m) : cW (d + 2) n_Ce_get [vo 0 1 c, vi i] m K := by
  refine w_Ce_get (Go.runR (callT_mono MT _) [] 200 hR ?_)
  refine m_Ce_has (by repeat' (first | exact hR | apply OKR.pI | apply OKR.pL | apply OKR.cpI)) (And.intro (by repeat' (first | exact hR | apply OKR.pI | apply OKR.pL | apply OKR.cpI)) ?_)
  refine And.intro (fun c3 => ?_) (fun c3 => ?_)
  · refine And.intro trivial ?_
    exact kvi (by grind) h
  · refine And.intro ⟨(by first | decide | assumption | omega), (by first | decide | assumption | omega)⟩ ?_
    refine And.intro (vp_lt (by grind) (by grind) (ln2_lt c)) ?_
    refine And.intro trivial ?_
    exact kvi (by grind) h

theorem m_X_refusalOfPlace {d : Nat} {m : Mem} {K : Option Vv → Mem → Prop} (hR : OKR m) {c : Nat} {i : Int32} (hm : gI m (0, 1, c) 1 = -1 → K (some (vi (-3))) (foundM m 1)) (hy : gI m (0, 1, c) 1 ≠ -1 → ¬ (0 ≤ i ∧ i < gI m (0, 1, c) 1) → K (some (vi (-3))) (foundM m 2)) (h : gI m (0, 1, c) 1 ≠ -1 → (0 ≤ i ∧ i < gI m (0, 1, c) 1) → K (some (vi 0)) m) : cW (d + 3) n_X_refusalOfPlace [vo 0 0 0, vo 0 1 c, vi i] m K := by
  refine w_X_refusalOfPlace (Go.runR (callT_mono MT _) [] 200 hR ?_)
  refine m_Ce_isMissing (by repeat' (first | exact hR | apply OKR.pI | apply OKR.pL | apply OKR.cpI)) (And.intro (by repeat' (first | exact hR | apply OKR.pI | apply OKR.pL | apply OKR.cpI)) ?_)
  refine And.intro (fun c2 => ?_) (fun c2 => ?_)
  · refine m_Ce_has (by repeat' (first | exact hR | apply OKR.pI | apply OKR.pL | apply OKR.cpI)) (And.intro (by repeat' (first | exact hR | apply OKR.pI | apply OKR.pL | apply OKR.cpI)) ?_)
    refine And.intro (fun c10 => ?_) (fun c10 => ?_)
    · refine m_X_found2 (by repeat' (first | exact hR | apply OKR.pI | apply OKR.pL | apply OKR.cpI)) (And.intro (by repeat' (first | exact hR | apply OKR.pI | apply OKR.pL | apply OKR.cpI)) ?_)
      refine And.intro trivial ?_
      first | exact hy (by grind) (by grind) | exact h (by grind) (by grind)
    · refine And.intro trivial ?_
      first | exact hy (by grind) (by grind) | exact h (by grind) (by grind)
  · refine m_X_found1 (by repeat' (first | exact hR | apply OKR.pI | apply OKR.pL | apply OKR.cpI)) (And.intro (by repeat' (first | exact hR | apply OKR.pI | apply OKR.pL | apply OKR.cpI)) ?_)
    refine And.intro trivial ?_
    exact hm (by grind)

theorem m_X_at {d : Nat} {m : Mem} {K : Option Vv → Mem → Prop} (hR : OKR m) {r i : Int32} (hs : ∀ a, a < 6 → gI m (0, 1, a) 1 ≤ nI 40) (hb : ¬ (0 ≤ r ∧ r ≤ 5) → K (some (vi (-1))) m) (hm : ∀ a, a < 6 → r = nI a → gI m (0, 1, a) 1 = -1 → K (some (vi (-3))) (foundM m 1)) (hy : ∀ a, a < 6 → r = nI a → gI m (0, 1, a) 1 ≠ -1 → ¬ (0 ≤ i ∧ i < gI m (0, 1, a) 1) → K (some (vi (-3))) (foundM m 2)) (h : ∀ a, a < 6 → r = nI a → gI m (0, 1, a) 1 ≠ -1 → (0 ≤ i ∧ i < gI m (0, 1, a) 1) → K (some (vi 1)) (tellM m (gI m (0, 2, a) i.toNatClampNeg))) : cW (d + 4) n_X_at [vo 0 0 0, vi r, vi i] m K := by
  refine w_X_at (Go.runR (callT_mono MT _) [] 200 hR ?_)
  refine m_X_isRow (by repeat' (first | exact hR | apply OKR.pI | apply OKR.pL | apply OKR.cpI)) (And.intro (by repeat' (first | exact hR | apply OKR.pI | apply OKR.pL | apply OKR.cpI)) ?_)
  refine And.intro (fun c3 => ?_) (fun c3 => ?_)
  · refine And.intro trivial ?_
    exact hb (by grind)
  · obtain ⟨a, ha, rfl⟩ := row_of c3
    have e0 : (nI a).toNatClampNeg = a := nI_clamp (by omega)
    refine And.intro ⟨(by first | decide | assumption | omega), (by first | decide | assumption | omega)⟩ ?_
    refine And.intro ⟨(by first | assumption | exact vp_nI (by dsimp only [ln, ln0, ln1]; omega) (by decide) | exact vp_lt (by grind) (by grind) (by decide)), ⟨rfl, by rw [e0]; exact ha⟩⟩ ?_
    refine m_X_refusalOfPlace (by repeat' (first | exact hR | apply OKR.pI | apply OKR.pL | apply OKR.cpI)) (fun q => And.intro (by repeat' (first | exact hR | apply OKR.pI | apply OKR.pL | apply OKR.cpI)) ?_) (fun q1 q2 => And.intro (by repeat' (first | exact hR | apply OKR.pI | apply OKR.pL | apply OKR.cpI)) ?_) (fun q1 q2 => And.intro (by repeat' (first | exact hR | apply OKR.pI | apply OKR.pL | apply OKR.cpI)) ?_)
    · refine And.intro (fun c15 => absurd c15 (by decide)) (fun c15 => And.intro trivial ?_)
      exact hm a ha rfl (by rw [e0] at q; exact q)
    · refine And.intro (fun c15 => absurd c15 (by decide)) (fun c15 => And.intro trivial ?_)
      exact hy a ha rfl (by rw [e0] at q1; exact q1) (by rw [e0] at q2; exact q2)
    · refine And.intro (fun c15 => ?_) (fun c15 => absurd rfl c15)
      refine And.intro ⟨(by decide), (by decide)⟩ ?_
      refine And.intro ⟨(vp_nI (N := 6) ha (by decide)), ⟨rfl, by rw [e0]; exact ha⟩⟩ ?_
      refine m_Ce_get (by repeat' (first | exact hR | apply OKR.pI | apply OKR.pL | apply OKR.cpI)) (by rw [e0]; omega) (by rw [e0]; have := hs a ha; rw [show ln (0, 2, a) = 40 from if_pos ha]; exact this) (And.intro (by repeat' (first | exact hR | apply OKR.pI | apply OKR.pL | apply OKR.cpI)) ?_)
      refine m_X_tell (by repeat' (first | exact hR | apply OKR.pI | apply OKR.pL | apply OKR.cpI)) (And.intro (by repeat' (first | exact hR | apply OKR.pI | apply OKR.pL | apply OKR.cpI)) ?_)
      refine And.intro trivial ?_
      rw [e0] at q1 q2 ⊢
      rw [if_pos q2]
      exact h a ha rfl q1 q2
