/-! Written by a program (wip/whole/p28.py): rows, case by case; tear, lay. -/
theorem RelAB.rowCase {m : Mem} (R : RelAB m) (r : Int32) : ¬ (0 ≤ r ∧ r ≤ 5) ∨ (∃ a, a < 6 ∧ r = nI a ∧ gI m (0, 1, a) 1 = -1 ∧ gI m (1, 2, 0) a = -9) ∨ ∃ a n, a < 6 ∧ r = nI a ∧ n ≤ 40 ∧ gI m (0, 1, a) 1 = nI n ∧ gI m (1, 2, 0) a = nI n ∧ ∀ k, k < n → gI m (0, 2, a) k = gI m (1, 3, 0) (40 * a + k) := by
  by_cases h : 0 ≤ r ∧ r ≤ 5
  · obtain ⟨a, ha, rfl⟩ := row_of2 h
    rcases R.2.1 a ha with q | ⟨n, q⟩
    · exact Or.inr (Or.inl ⟨a, ha, rfl, q.1, q.2⟩)
    · exact Or.inr (Or.inr ⟨a, n, ha, rfl, q⟩)
  · exact Or.inl h
theorem m_X_isRow1 {d : Nat} {m : Mem} {K : Option Vv → Mem → Prop} (hR : OKR m) {a : Nat} (ha : a < 6) (h : K (some (vi 1)) m) : cW (d + 1) n_X_isRow [vo 0 0 0, vi (nI a)] m K := m_X_isRow hR (kvi (if_pos (isrow_in ha)) h)
theorem m_X_isRow0 {d : Nat} {m : Mem} {K : Option Vv → Mem → Prop} (hR : OKR m) {r : Int32} (q : ¬ (0 ≤ r ∧ r ≤ 5)) (h : K (some (vi 0)) m) : cW (d + 1) n_X_isRow [vo 0 0 0, vi r] m K := m_X_isRow hR (kvi (if_neg q) h)
theorem m_M_isRow1 {d : Nat} {m : Mem} {K : Option Vv → Mem → Prop} (hR : OKR m) {a : Nat} (ha : a < 6) (h : K (some (vi 1)) m) : cW (d + 2) n_M_isRow [vi (nI a)] m K := m_M_isRow hR (kvi (if_pos (isrow_in ha)) h)
theorem m_M_isRow0 {d : Nat} {m : Mem} {K : Option Vv → Mem → Prop} (hR : OKR m) {r : Int32} (q : ¬ (0 ≤ r ∧ r ≤ 5)) (h : K (some (vi 0)) m) : cW (d + 2) n_M_isRow [vi r] m K := m_M_isRow hR (kvi (if_neg q) h)
theorem m_M_askedRow0 {d : Nat} {m : Mem} {K : Option Vv → Mem → Prop} (hR : OKR m) {r : Int32} (q : ¬ (0 ≤ r ∧ r ≤ 5)) (h : K (some (vi (-1))) m) : cW (d + 3) n_M_askedRow [vo 1 0 0, vi r] m K := m_M_askedRow hR (fun _ => h) (fun z _ => absurd z q) (fun z _ => absurd z q)
theorem m_M_askedRow1 {d : Nat} {m : Mem} {K : Option Vv → Mem → Prop} (hR : OKR m) {a : Nat} (ha : a < 6) (q : gI m (1, 2, 0) a = -9) (h : K (some (vi (-3))) (meetM m 1)) : cW (d + 3) n_M_askedRow [vo 1 0 0, vi (nI a)] m K := m_M_askedRow hR (fun z => absurd (isrow_in ha) z) (fun _ _ => h) (fun _ z => by rw [nI_clamp (by omega), q] at z; exact absurd z (by decide))
theorem m_M_askedRow2 {d : Nat} {m : Mem} {K : Option Vv → Mem → Prop} (hR : OKR m) {a n : Nat} (ha : a < 6) (hn : n ≤ 80) (q : gI m (1, 2, 0) a = nI n) (h : K (some (vi 0)) m) : cW (d + 3) n_M_askedRow [vo 1 0 0, vi (nI a)] m K := m_M_askedRow hR (fun z => absurd (isrow_in ha) z) (fun _ z => by rw [nI_clamp (by omega), q] at z; exact absurd z (szneg hn).1) (fun _ _ => h)
theorem m_Ce_isMissing1 {d : Nat} {m : Mem} {K : Option Vv → Mem → Prop} (hR : OKR m) {c : Nat} (q : gI m (0, 1, c) 1 = -1) (h : K (some (vi 1)) m) : cW (d + 1) n_Ce_isMissing [vo 0 1 c] m K := m_Ce_isMissing hR (kvi (if_pos q) h)
theorem m_Ce_isMissing0 {d : Nat} {m : Mem} {K : Option Vv → Mem → Prop} (hR : OKR m) {c n : Nat} (hn : n ≤ 80) (q : gI m (0, 1, c) 1 = nI n) (h : K (some (vi 0)) m) : cW (d + 1) n_Ce_isMissing [vo 0 1 c] m K := m_Ce_isMissing hR (kvi (if_neg (by rw [q]; exact (szneg hn).2.2)) h)

theorem m_Ce_remove {d : Nat} {m : Mem} {K : Option Vv → Mem → Prop} (hR : OKR m) {c : Nat} (h : K none (pI m (0, 1, c) 1 (-1))) : cW (d + 1) n_Ce_remove [vo 0 1 c] m K := by
  refine w_Ce_remove (Go.runR (callT_mono MT _) [] 200 hR ?_)
  refine And.intro trivial ?_
  exact h

theorem RelAB.tear {m : Mem} (R : RelAB m) {a : Nat} (ha : a < 6) : RelAB (pI (pI m (0, 1, a) 1 (-1)) (1, 2, 0) a (-9)) := by
  refine R.cells R.1.pI.pI ?_ ?_ (fun t i q h1 h2 => ?_) (fun t i q h1 h2 h3 h4 h5 => ?_) (fun o q => by rw [gL_pI, gL_pI]) (fun o q => by rw [gR_pI, gR_pI])
  · intro r hr
    have e1 : gI (pI (pI m (0, 1, a) 1 (-1)) (1, 2, 0) a (-9)) (0, 1, r) 1 = if r = a then -1 else gI m (0, 1, r) 1 := by rw [rd10, rd00]; simp
    have e2 : gI (pI (pI m (0, 1, a) 1 (-1)) (1, 2, 0) a (-9)) (1, 2, 0) r = if r = a then -9 else gI m (1, 2, 0) r := by rw [rd11, rd01]; simp
    rw [e1, e2]
    by_cases h : r = a
    · rw [if_pos h, if_pos h]; exact Or.inl ⟨rfl, rfl⟩
    · rw [if_neg h, if_neg h]; exact R.2.1 r hr
  · refine TextsR.cg (m := m) (fun r => ?_) (fun r j => rfl) (fun j => rfl) (fun j => rfl) R.2.2.1
    rw [rd10, rd00, if_neg (by omega)]
  · rw [rd10, rd00, if_neg (by omega)]
  · rw [rd11, rd01, if_neg (by omega)]
theorem p_tear {d : Nat} {m : Mem} {K : Option Vv → Option Vv → Mem → Prop} (R : RelAB m) {r : Int32} (h : ∀ v m', RelAB m' → K v v m') : cW (d + 4) n_X_tear [vo 0 0 0, vi r] m (fun v m1 => cW (d + 4) n_M_tear [vo 1 0 0, vi r] m1 (fun w m2 => K v w m2)) := by
  have hR := R.1
  rcases R.rowCase r with q | ⟨a, ha, rfl, s1, s2⟩ | ⟨a, n, ha, rfl, hn, s1, s2, s3⟩
  · refine w_X_tear (Go.runR (callT_mono MT _) [] 200 (by repeat' (first | exact hR | apply OKR.pI | apply OKR.pL | apply OKR.cpI | apply OKR.wI)) ?_)
    refine m_X_isRow0 (by repeat' (first | exact hR | apply OKR.pI | apply OKR.pL | apply OKR.cpI | apply OKR.wI)) q (And.intro (by repeat' (first | exact hR | apply OKR.pI | apply OKR.pL | apply OKR.cpI | apply OKR.wI)) ?_)
    refine And.intro (fun c3 => ?_) (fun c3 => ?_)
    · try dsimp only at c3
      refine And.intro trivial ?_
      refine w_M_tear (Go.runR (callT_mono MT _) [] 200 (by repeat' (first | exact hR | apply OKR.pI | apply OKR.pL | apply OKR.cpI | apply OKR.wI)) ?_)
      refine m_M_askedRow0 (by repeat' (first | exact hR | apply OKR.pI | apply OKR.pL | apply OKR.cpI | apply OKR.wI)) q (And.intro (by repeat' (first | exact hR | apply OKR.pI | apply OKR.pL | apply OKR.cpI | apply OKR.wI)) ?_)
      refine And.intro (fun c5 => ?_) (fun c5 => ?_)
      · first | exact absurd c5 (by decide) | exact absurd (by decide) c5 | (exfalso; grind)
      · try dsimp only at c5
        refine And.intro trivial ?_
        exact h _ _ R
    · first | exact absurd c3 (by decide) | exact absurd (by decide) c3 | (exfalso; grind)
  · have e0 : (nI a).toNatClampNeg = a := nI_clamp (by omega)
    refine w_X_tear (Go.runR (callT_mono MT _) [] 200 (by repeat' (first | exact hR | apply OKR.pI | apply OKR.pL | apply OKR.cpI | apply OKR.wI)) ?_)
    refine m_X_isRow1 (by repeat' (first | exact hR | apply OKR.pI | apply OKR.pL | apply OKR.cpI | apply OKR.wI)) ha (And.intro (by repeat' (first | exact hR | apply OKR.pI | apply OKR.pL | apply OKR.cpI | apply OKR.wI)) ?_)
    refine And.intro (fun c3 => ?_) (fun c3 => ?_)
    · first | exact absurd c3 (by decide) | exact absurd (by decide) c3 | (exfalso; grind)
    · try dsimp only at c3
      refine And.intro ⟨(by first | decide | assumption | omega), (by first | decide | assumption | omega)⟩ ?_
      refine And.intro ⟨(vp_nI (N := 6) ha (by decide)), ⟨rfl, by rw [e0]; exact ha⟩⟩ ?_
      rw [show (nI a).toNatClampNeg = a from e0]
      refine m_Ce_isMissing1 (by repeat' (first | exact hR | apply OKR.pI | apply OKR.pL | apply OKR.cpI | apply OKR.wI)) s1 (And.intro (by repeat' (first | exact hR | apply OKR.pI | apply OKR.pL | apply OKR.cpI | apply OKR.wI)) ?_)
      refine And.intro (fun c11 => ?_) (fun c11 => ?_)
      · first | exact absurd c11 (by decide) | exact absurd (by decide) c11 | (exfalso; grind)
      · try dsimp only at c11
        refine m_X_found1 (by repeat' (first | exact hR | apply OKR.pI | apply OKR.pL | apply OKR.cpI | apply OKR.wI))  (And.intro (by repeat' (first | exact hR | apply OKR.pI | apply OKR.pL | apply OKR.cpI | apply OKR.wI)) ?_)
        refine And.intro trivial ?_
        refine w_M_tear (Go.runR (callT_mono MT _) [] 200 (by repeat' (first | exact hR | apply OKR.pI | apply OKR.pL | apply OKR.cpI | apply OKR.wI)) ?_)
        refine m_M_askedRow1 (by repeat' (first | exact hR | apply OKR.pI | apply OKR.pL | apply OKR.cpI | apply OKR.wI)) ha s2 (And.intro (by repeat' (first | exact hR | apply OKR.pI | apply OKR.pL | apply OKR.cpI | apply OKR.wI)) ?_)
        refine And.intro (fun c5 => ?_) (fun c5 => ?_)
        · first | exact absurd c5 (by decide) | exact absurd (by decide) c5 | (exfalso; grind)
        · try dsimp only at c5
          refine And.intro trivial ?_
          exact h _ _ (R.meet (by omega) (by omega))
  · have e0 : (nI a).toNatClampNeg = a := nI_clamp (by omega)
    refine w_X_tear (Go.runR (callT_mono MT _) [] 200 (by repeat' (first | exact hR | apply OKR.pI | apply OKR.pL | apply OKR.cpI | apply OKR.wI)) ?_)
    refine m_X_isRow1 (by repeat' (first | exact hR | apply OKR.pI | apply OKR.pL | apply OKR.cpI | apply OKR.wI)) ha (And.intro (by repeat' (first | exact hR | apply OKR.pI | apply OKR.pL | apply OKR.cpI | apply OKR.wI)) ?_)
    refine And.intro (fun c3 => ?_) (fun c3 => ?_)
    · first | exact absurd c3 (by decide) | exact absurd (by decide) c3 | (exfalso; grind)
    · try dsimp only at c3
      refine And.intro ⟨(by first | decide | assumption | omega), (by first | decide | assumption | omega)⟩ ?_
      refine And.intro ⟨(vp_nI (N := 6) ha (by decide)), ⟨rfl, by rw [e0]; exact ha⟩⟩ ?_
      rw [show (nI a).toNatClampNeg = a from e0]
      refine m_Ce_isMissing0 (by repeat' (first | exact hR | apply OKR.pI | apply OKR.pL | apply OKR.cpI | apply OKR.wI)) (n := n) (by omega) s1 (And.intro (by repeat' (first | exact hR | apply OKR.pI | apply OKR.pL | apply OKR.cpI | apply OKR.wI)) ?_)
      refine And.intro (fun c11 => ?_) (fun c11 => ?_)
      · try dsimp only at c11
        refine And.intro ⟨(by first | decide | assumption | omega), (by first | decide | assumption | omega)⟩ ?_
        refine And.intro ⟨(vp_nI (N := 6) ha (by decide)), ⟨rfl, by rw [e0]; exact ha⟩⟩ ?_
        rw [show (nI a).toNatClampNeg = a from e0]
        refine m_Ce_remove (by repeat' (first | exact hR | apply OKR.pI | apply OKR.pL | apply OKR.cpI | apply OKR.wI))  (And.intro (by repeat' (first | exact hR | apply OKR.pI | apply OKR.pL | apply OKR.cpI | apply OKR.wI)) ?_)
        refine And.intro trivial ?_
        refine w_M_tear (Go.runR (callT_mono MT _) [] 200 (by repeat' (first | exact hR | apply OKR.pI | apply OKR.pL | apply OKR.cpI | apply OKR.wI)) ?_)
        refine m_M_askedRow2 (by repeat' (first | exact hR | apply OKR.pI | apply OKR.pL | apply OKR.cpI | apply OKR.wI)) (n := n) ha (by omega) s2 (And.intro (by repeat' (first | exact hR | apply OKR.pI | apply OKR.pL | apply OKR.cpI | apply OKR.wI)) ?_)
        refine And.intro (fun c5 => ?_) (fun c5 => ?_)
        · try dsimp only at c5
          refine And.intro ⟨rfl, rfl, rfl⟩ ?_
          refine And.intro (vp_nI (N := 6) ha (by decide)) ?_
          refine And.intro trivial ?_
          rw [e0]
          exact h _ _ (R.tear ha)
        · first | exact absurd c5 (by decide) | exact absurd (by decide) c5 | (exfalso; grind)
      · first | exact absurd c11 (by decide) | exact absurd (by decide) c11 | (exfalso; grind)
