/-! Written by a program (wip/whole/p34.py): HOUSES by number; made. -/
theorem CurR.le {n : Nat} {m : Mem} (H : CurR n m) : n ≤ 8 := H.1
theorem CurR.many {n : Nat} {m : Mem} (H : CurR n m) : gI m (0, 5, 0) 3 = nI n ∧ gI m (1, 0, 0) 10 = nI n := by
  obtain ⟨h8, hm, h0, h1⟩ := H
  rcases Nat.eq_zero_or_pos n with z | z
  · subst z
    exact ⟨(h0 rfl).1, hm⟩
  · obtain ⟨-, ⟨H, -, a, -⟩, -⟩ := h1 z
    exact ⟨a, hm⟩
theorem CurR.house {n : Nat} {m : Mem} (H : CurR n m) {j : Nat} (hj : j < n) : HoR j (gI m (1, 9, 0) j) (gI m (1, 10, 0) j) (gI m (1, 11, 0) j) m := by
  obtain ⟨-, ⟨H, -, -, -, -, -, -, -, a, -⟩, -⟩ := H.2.2.2 (by omega)
  have := a j hj
  rw [show 8 * 0 + j = j by omega] at this
  exact this

theorem m_St_hasHouse {d : Nat} {m : Mem} {K : Option Vv → Mem → Prop} (hR : OKR m) {s : Nat} {i : Int32} (h : K (some (vi (b2 (0 ≤ i ∧ i < gI m (0, 5, s) 3)))) m) : cW (d + 1) n_St_hasHouse [vo 0 5 s, vi i] m K := by
  refine w_St_hasHouse (Go.runR (callT_mono MT _) [] 200 hR ?_)
  refine And.intro (fun c1 => ?_) (fun c1 => ?_)
  · try dsimp only at c1
    refine And.intro (by first | exact Or.inl rfl | exact Or.inr rfl | grind) ?_
    exact kvi (by grind) h
  · try dsimp only at c1
    refine And.intro (fun c5 => ?_) (fun c5 => ?_)
    · try dsimp only at c5
      refine And.intro (by first | exact Or.inl rfl | exact Or.inr rfl | grind) ?_
      exact kvi (by grind) h
    · try dsimp only at c5
      refine And.intro (by first | exact Or.inl rfl | exact Or.inr rfl | grind) ?_
      exact kvi (by grind) h

theorem m_M_isHouse {d : Nat} {m : Mem} {K : Option Vv → Mem → Prop} (hR : OKR m) {i : Int32} (h : K (some (vi (b2 (0 ≤ i ∧ i ≤ gI m (1, 0, 0) 10 - 1)))) m) : cW (d + 2) n_M_isHouse [vo 1 0 0, vi i] m K := by
  refine w_M_isHouse (Go.runR (callT_mono MT _) [] 200 hR ?_)
  refine m_M_in (by repeat' (first | exact hR | apply OKR.pI | apply OKR.pL | apply OKR.cpI)) (And.intro (by repeat' (first | exact hR | apply OKR.pI | apply OKR.pL | apply OKR.cpI)) ?_)
  refine And.intro (by first | exact Or.inl rfl | exact Or.inr rfl | grind) ?_
  exact h

theorem m_St_hasHouse1 {d : Nat} {m : Mem} {K : Option Vv → Mem → Prop} (hR : OKR m) {s n j : Nat} (q : gI m (0, 5, s) 3 = nI n) (hn : n ≤ 8) (hj : j < n) (h : K (some (vi 1)) m) : cW (d + 1) n_St_hasHouse [vo 0 5 s, vi (nI j)] m K := m_St_hasHouse hR (kvi (if_pos (by rw [q]; exact place_in hj (by omega))) h)
theorem m_St_hasHouse0 {d : Nat} {m : Mem} {K : Option Vv → Mem → Prop} (hR : OKR m) {s n : Nat} {i : Int32} (q : gI m (0, 5, s) 3 = nI n) (hi : ¬ (0 ≤ i ∧ i < nI n)) (h : K (some (vi 0)) m) : cW (d + 1) n_St_hasHouse [vo 0 5 s, vi i] m K := m_St_hasHouse hR (kvi (if_neg (by rw [q]; exact hi)) h)
theorem m_M_isHouse1 {d : Nat} {m : Mem} {K : Option Vv → Mem → Prop} (hR : OKR m) {n j : Nat} (q : gI m (1, 0, 0) 10 = nI n) (hn : n ≤ 8) (hj : j < n) (h : K (some (vi 1)) m) : cW (d + 2) n_M_isHouse [vo 1 0 0, vi (nI j)] m K := m_M_isHouse hR (kvi (if_pos (by rw [q, sub1_in (by omega)]; exact place_in hj (by omega))) h)
theorem m_M_isHouse0 {d : Nat} {m : Mem} {K : Option Vv → Mem → Prop} (hR : OKR m) {n : Nat} {i : Int32} (q : gI m (1, 0, 0) 10 = nI n) (hn : n ≤ 8) (hi : ¬ (0 ≤ i ∧ i < nI n)) (h : K (some (vi 0)) m) : cW (d + 2) n_M_isHouse [vo 1 0 0, vi i] m K := m_M_isHouse hR (kvi (if_neg (by rw [q, sub1_in (by omega)]; exact hi)) h)

theorem p_made {d : Nat} {m : Mem} {K : Option Vv → Option Vv → Mem → Prop} (R : RelAB m) {i : Int32} (h : ∀ v m', RelAB m' → K v v m') : cW (d + 3) n_X_made [vo 0 0 0, vi i] m (fun v m1 => cW (d + 3) n_M_made [vo 1 0 0, vi i] m1 (fun w m2 => K v w m2)) := by
  have hR := R.1
  obtain ⟨n, hc⟩ := R.2.2.2.2
  have ht := R.2.2.2.1
  obtain ⟨q1, q2⟩ := hc.many
  have h8 := hc.le
  rcases RelAB.placeCase (n := n) (by omega) i with q | ⟨j, hj, rfl⟩
  · refine w_X_made (Go.runR (callT_mono MT _) [] 200 (by repeat' (first | exact hR | apply OKR.pI | apply OKR.pL | apply OKR.cpI | apply OKR.wI)) ?_)
    refine And.intro ⟨(by first | decide | assumption | omega), (by first | decide | assumption | omega)⟩ ?_
    refine m_St_hasHouse0 (by repeat' (first | exact hR | apply OKR.pI | apply OKR.pL | apply OKR.cpI | apply OKR.wI)) (n := n) q1 q (And.intro (by repeat' (first | exact hR | apply OKR.pI | apply OKR.pL | apply OKR.cpI | apply OKR.wI)) ?_)
    refine And.intro (fun c4 => ?_) (fun c4 => ?_)
    · try dsimp only at c4
      refine And.intro trivial ?_
      refine w_M_made (Go.runR (callT_mono MT _) [] 200 (by repeat' (first | exact hR | apply OKR.pI | apply OKR.pL | apply OKR.cpI | apply OKR.wI)) ?_)
      refine m_M_isHouse0 (by repeat' (first | exact hR | apply OKR.pI | apply OKR.pL | apply OKR.cpI | apply OKR.wI)) (n := n) q2 h8 q (And.intro (by repeat' (first | exact hR | apply OKR.pI | apply OKR.pL | apply OKR.cpI | apply OKR.wI)) ?_)
      refine And.intro (fun c3 => ?_) (fun c3 => ?_)
      · try dsimp only at c3
        refine And.intro trivial ?_
        exact h _ _ R
      · first | exact absurd c3 (by decide) | exact absurd (by decide) c3 | (exfalso; grind)
    · first | exact absurd c4 (by decide) | exact absurd (by decide) c4 | (exfalso; grind)
  · have e0 : (nI j).toNatClampNeg = j := nI_clamp (by omega)
    have hh := hc.house hj
    refine w_X_made (Go.runR (callT_mono MT _) [] 200 (by repeat' (first | exact hR | apply OKR.pI | apply OKR.pL | apply OKR.cpI | apply OKR.wI)) ?_)
    refine And.intro ⟨(by first | decide | assumption | omega), (by first | decide | assumption | omega)⟩ ?_
    refine m_St_hasHouse1 (by repeat' (first | exact hR | apply OKR.pI | apply OKR.pL | apply OKR.cpI | apply OKR.wI)) (n := n) q1 h8 hj (And.intro (by repeat' (first | exact hR | apply OKR.pI | apply OKR.pL | apply OKR.cpI | apply OKR.wI)) ?_)
    refine And.intro (fun c4 => ?_) (fun c4 => ?_)
    · first | exact absurd c4 (by decide) | exact absurd (by decide) c4 | (exfalso; grind)
    · try dsimp only at c4
      refine And.intro ⟨(by first | decide | assumption | omega), (by first | decide | assumption | omega)⟩ ?_
      refine And.intro ⟨(by first | decide | assumption | omega), (by first | decide | assumption | omega)⟩ ?_
      refine And.intro ⟨(vp_nI (N := 8) (by omega) (by decide)), ⟨(by decide), by rw [e0]; omega⟩⟩ ?_
      refine And.intro trivial ?_
      refine w_M_made (Go.runR (callT_mono MT _) [] 200 (by repeat' (first | exact hR | apply OKR.pI | apply OKR.pL | apply OKR.cpI | apply OKR.wI)) ?_)
      refine m_M_isHouse1 (by repeat' (first | exact hR | apply OKR.pI | apply OKR.pL | apply OKR.cpI | apply OKR.wI)) (n := n) q2 h8 hj (And.intro (by repeat' (first | exact hR | apply OKR.pI | apply OKR.pL | apply OKR.cpI | apply OKR.wI)) ?_)
      refine And.intro (fun c3 => ?_) (fun c3 => ?_)
      · first | exact absurd c3 (by decide) | exact absurd (by decide) c3 | (exfalso; grind)
      · try dsimp only at c3
        refine And.intro ⟨rfl, rfl, rfl⟩ ?_
        refine And.intro (vp_nI (N := 8) (by omega) (by decide)) ?_
        refine And.intro trivial ?_
        show K (some (vi (gI m (0, 8, 8 * 0 + (nI j).toNatClampNeg) 3))) (some (vi (gI m (1, 10, 0) (nI j).toNatClampNeg))) m
        rw [e0, show 8 * 0 + j = j by omega, hh.2.2.1]
        exact h _ _ R
