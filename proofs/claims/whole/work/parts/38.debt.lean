/-! Written by a program (wip/whole/p38.py): debt. -/
theorem CurR.debt {n : Nat} {m : Mem} (H : CurR n m) {i j : Nat} (hi : i < n) (hj : j < n) : gI m (0, 13, i) j = gI m (1, 18, 0) (8 * i + j) ∧ ∃ v, v ≤ 99 ∧ gI m (1, 18, 0) (8 * i + j) = nI v := by
  obtain ⟨-, ⟨H, -, -, -, -, -, -, -, -, a, -⟩, -⟩ := H.2.2.2 (by omega)
  have := a i j hi hj
  rw [show 8 * 0 + i = i by omega] at this
  exact this
theorem RelAB.debt {m : Mem} (R : RelAB m) {n i j a : Nat} (hc : CurR n m) (hi : i < n) (hj : j < n) (ha : a ≤ 99) : RelAB (pI (pI m (0, 13, i) j (nI a)) (1, 18, 0) (8 * i + j) (nI a)) := by
  obtain ⟨h8, hm, -, h1⟩ := hc
  obtain ⟨hl, ⟨H, s1, s2⟩, hk⟩ := h1 (by omega)
  have e8 : ∀ p k, gI (pI (pI m (0, 13, i) j (nI a)) (1, 18, 0) (8 * i + j) (nI a)) (0, 13, p) k = if p = i ∧ k = j then nI a else gI m (0, 13, p) k := fun p k => by rw [rd10, rd00]; simp
  have e9 : ∀ k, gI (pI (pI m (0, 13, i) j (nI a)) (1, 18, 0) (8 * i + j) (nI a)) (1, 18, 0) k = if k = 8 * i + j then nI a else gI m (1, 18, 0) k := fun k => by rw [rd11, rd01]; simp
  refine R.ofCur (n := n) R.1.pI.pI ⟨h8, hm, fun z => absurd z (by omega), fun _ => ⟨LoudR.cg (m := m) h8 (fun i => kn_rw (fun _ => rfl) i) (fun _ => rfl) (fun _ => rfl) (fun _ _ => rfl) rfl rfl hl, ⟨H, s1, ?_⟩, fun k hk3 => KeptR.cg (m := m) h8 (fun _ => rfl) (fun _ _ _ => rfl) (fun _ _ _ => rfl) (fun _ _ _ => rfl) (fun p q _ => by rw [e8, if_neg (by omega)]) (fun _ => rfl) (fun i => kn_rw (fun _ => rfl) i) (fun _ _ => rfl) rfl (hk k hk3)⟩⟩ (fun t i k q => by rw [rd10, rd00, if_neg (by omega)]) (fun t k q => by rw [rd11, rd01, if_neg (by omega)]) R.2.2.2.1
  obtain ⟨a1, a2, a3, a4, a5, a6, a7, a8, a9⟩ := s2
  refine ⟨a1, a2, a3, a4, a5, a6, a7, fun p k hp hq => ?_, a9⟩
  have := a8 p k hp hq
  rw [show 8 * 0 + p = p by omega] at *
  rw [e8, e9]
  by_cases h : p = i ∧ k = j
  · rw [if_pos h, if_pos (by omega)]
    exact ⟨rfl, a, ha, rfl⟩
  · rw [if_neg h, if_neg (by omega)]
    exact this

theorem p_debt {d : Nat} {m : Mem} {K : Option Vv → Option Vv → Mem → Prop} (R : RelAB m) {i l v : Int32} (h : ∀ v m', RelAB m' → K v v m') : cW (d + 3) n_X_debt [vo 0 0 0, vi i, vi l, vi v] m (fun u m1 => cW (d + 3) n_M_debt [vo 1 0 0, vi i, vi l, vi v] m1 (fun w m2 => K u w m2)) := by
  have hR := R.1
  obtain ⟨n, hc⟩ := R.2.2.2.2
  have ht := R.2.2.2.1
  obtain ⟨q1, q2⟩ := hc.many
  have h8 := hc.le
  rcases RelAB.placeCase (n := n) (by omega) i with q | ⟨k, hk, rfl⟩
  · refine w_X_debt (Go.runR (callT_mono MT _) [] 200 (by repeat' (first | exact hR | apply OKR.pI | apply OKR.pL | apply OKR.cpI | apply OKR.wI)) ?_)
    refine And.intro ⟨(by first | decide | assumption | omega), (by first | decide | assumption | omega)⟩ ?_
    refine m_St_hasHouse0 (by repeat' (first | exact hR | apply OKR.pI | apply OKR.pL | apply OKR.cpI | apply OKR.wI)) (n := n) q1 q (And.intro (by repeat' (first | exact hR | apply OKR.pI | apply OKR.pL | apply OKR.cpI | apply OKR.wI)) ?_)
    refine And.intro (fun c4 => ?_) (fun c4 => ?_)
    · try dsimp only at c4
      refine And.intro trivial ?_
      refine w_M_debt (Go.runR (callT_mono MT _) [] 200 (by repeat' (first | exact hR | apply OKR.pI | apply OKR.pL | apply OKR.cpI | apply OKR.wI)) ?_)
      refine m_M_isHouse0 (by repeat' (first | exact hR | apply OKR.pI | apply OKR.pL | apply OKR.cpI | apply OKR.wI)) (n := n) q2 h8 q (And.intro (by repeat' (first | exact hR | apply OKR.pI | apply OKR.pL | apply OKR.cpI | apply OKR.wI)) ?_)
      refine And.intro (fun c3 => ?_) (fun c3 => ?_)
      · try dsimp only at c3
        refine And.intro trivial ?_
        exact h _ _ R
      · first | exact absurd c3 (by decide) | exact absurd (by decide) c3 | (exfalso; grind)
    · first | exact absurd c4 (by decide) | exact absurd (by decide) c4 | (exfalso; grind)
  · rcases RelAB.placeCase (n := n) (by omega) l with q | ⟨j, hj, rfl⟩
    · refine w_X_debt (Go.runR (callT_mono MT _) [] 200 (by repeat' (first | exact hR | apply OKR.pI | apply OKR.pL | apply OKR.cpI | apply OKR.wI)) ?_)
      refine And.intro ⟨(by first | decide | assumption | omega), (by first | decide | assumption | omega)⟩ ?_
      refine m_St_hasHouse1 (by repeat' (first | exact hR | apply OKR.pI | apply OKR.pL | apply OKR.cpI | apply OKR.wI)) (n := n) q1 h8 hk (And.intro (by repeat' (first | exact hR | apply OKR.pI | apply OKR.pL | apply OKR.cpI | apply OKR.wI)) ?_)
      refine And.intro (fun c4 => ?_) (fun c4 => ?_)
      · first | exact absurd c4 (by decide) | exact absurd (by decide) c4 | (exfalso; grind)
      · try dsimp only at c4
        refine And.intro ⟨(by first | decide | assumption | omega), (by first | decide | assumption | omega)⟩ ?_
        refine m_St_hasHouse0 (by repeat' (first | exact hR | apply OKR.pI | apply OKR.pL | apply OKR.cpI | apply OKR.wI)) (n := n) q1 q (And.intro (by repeat' (first | exact hR | apply OKR.pI | apply OKR.pL | apply OKR.cpI | apply OKR.wI)) ?_)
        refine And.intro (fun c9 => ?_) (fun c9 => ?_)
        · try dsimp only at c9
          refine And.intro trivial ?_
          refine w_M_debt (Go.runR (callT_mono MT _) [] 200 (by repeat' (first | exact hR | apply OKR.pI | apply OKR.pL | apply OKR.cpI | apply OKR.wI)) ?_)
          refine m_M_isHouse1 (by repeat' (first | exact hR | apply OKR.pI | apply OKR.pL | apply OKR.cpI | apply OKR.wI)) (n := n) q2 h8 hk (And.intro (by repeat' (first | exact hR | apply OKR.pI | apply OKR.pL | apply OKR.cpI | apply OKR.wI)) ?_)
          refine And.intro (fun c3 => ?_) (fun c3 => ?_)
          · first | exact absurd c3 (by decide) | exact absurd (by decide) c3 | (exfalso; grind)
          · try dsimp only at c3
            refine m_M_isHouse0 (by repeat' (first | exact hR | apply OKR.pI | apply OKR.pL | apply OKR.cpI | apply OKR.wI)) (n := n) q2 h8 q (And.intro (by repeat' (first | exact hR | apply OKR.pI | apply OKR.pL | apply OKR.cpI | apply OKR.wI)) ?_)
            refine And.intro (fun c7 => ?_) (fun c7 => ?_)
            · try dsimp only at c7
              refine And.intro trivial ?_
              exact h _ _ R
            · first | exact absurd c7 (by decide) | exact absurd (by decide) c7 | (exfalso; grind)
        · first | exact absurd c9 (by decide) | exact absurd (by decide) c9 | (exfalso; grind)
    · by_cases z : nI k = nI j
      · refine w_X_debt (Go.runR (callT_mono MT _) [] 200 (by repeat' (first | exact hR | apply OKR.pI | apply OKR.pL | apply OKR.cpI | apply OKR.wI)) ?_)
        refine And.intro ⟨(by first | decide | assumption | omega), (by first | decide | assumption | omega)⟩ ?_
        refine m_St_hasHouse1 (by repeat' (first | exact hR | apply OKR.pI | apply OKR.pL | apply OKR.cpI | apply OKR.wI)) (n := n) q1 h8 hk (And.intro (by repeat' (first | exact hR | apply OKR.pI | apply OKR.pL | apply OKR.cpI | apply OKR.wI)) ?_)
        refine And.intro (fun c4 => ?_) (fun c4 => ?_)
        · first | exact absurd c4 (by decide) | exact absurd (by decide) c4 | (exfalso; grind)
        · try dsimp only at c4
          refine And.intro ⟨(by first | decide | assumption | omega), (by first | decide | assumption | omega)⟩ ?_
          refine m_St_hasHouse1 (by repeat' (first | exact hR | apply OKR.pI | apply OKR.pL | apply OKR.cpI | apply OKR.wI)) (n := n) q1 h8 hj (And.intro (by repeat' (first | exact hR | apply OKR.pI | apply OKR.pL | apply OKR.cpI | apply OKR.wI)) ?_)
          refine And.intro (fun c9 => ?_) (fun c9 => ?_)
          · first | exact absurd c9 (by decide) | exact absurd (by decide) c9 | (exfalso; grind)
          · try dsimp only at c9
            refine And.intro (fun c12 => ?_) (fun c12 => ?_)
            · try dsimp only at c12
              refine And.intro trivial ?_
              refine w_M_debt (Go.runR (callT_mono MT _) [] 200 (by repeat' (first | exact hR | apply OKR.pI | apply OKR.pL | apply OKR.cpI | apply OKR.wI)) ?_)
              refine m_M_isHouse1 (by repeat' (first | exact hR | apply OKR.pI | apply OKR.pL | apply OKR.cpI | apply OKR.wI)) (n := n) q2 h8 hk (And.intro (by repeat' (first | exact hR | apply OKR.pI | apply OKR.pL | apply OKR.cpI | apply OKR.wI)) ?_)
              refine And.intro (fun c3 => ?_) (fun c3 => ?_)
              · first | exact absurd c3 (by decide) | exact absurd (by decide) c3 | (exfalso; grind)
              · try dsimp only at c3
                refine m_M_isHouse1 (by repeat' (first | exact hR | apply OKR.pI | apply OKR.pL | apply OKR.cpI | apply OKR.wI)) (n := n) q2 h8 hj (And.intro (by repeat' (first | exact hR | apply OKR.pI | apply OKR.pL | apply OKR.cpI | apply OKR.wI)) ?_)
                refine And.intro (fun c7 => ?_) (fun c7 => ?_)
                · first | exact absurd c7 (by decide) | exact absurd (by decide) c7 | (exfalso; grind)
                · try dsimp only at c7
                  refine And.intro (fun c10 => ?_) (fun c10 => ?_)
                  · try dsimp only at c10
                    refine And.intro trivial ?_
                    exact h _ _ R
                  · exact absurd z c10
            · exact absurd z c12
      · by_cases q : 0 ≤ v ∧ v ≤ 99
        · obtain ⟨a, ha, rfl⟩ := nI_of2 (x := v) (M := 99) (n := 99) rfl (by grind) q.2
          have e0 : (nI k).toNatClampNeg = k := nI_clamp (by omega)
          have e2 : (nI j).toNatClampNeg = j := nI_clamp (by omega)
          have e1 : (8 : Int32) * nI k + nI j = nI (8 * k + j) := by rw [show (8 : Int32) = nI 8 from rfl, pk_mul, nI_add]
          have hh := hc.debt hk hj
          refine w_X_debt (Go.runR (callT_mono MT _) [] 200 (by repeat' (first | exact hR | apply OKR.pI | apply OKR.pL | apply OKR.cpI | apply OKR.wI)) ?_)
          refine And.intro ⟨(by first | decide | assumption | omega), (by first | decide | assumption | omega)⟩ ?_
          refine m_St_hasHouse1 (by repeat' (first | exact hR | apply OKR.pI | apply OKR.pL | apply OKR.cpI | apply OKR.wI)) (n := n) q1 h8 hk (And.intro (by repeat' (first | exact hR | apply OKR.pI | apply OKR.pL | apply OKR.cpI | apply OKR.wI)) ?_)
          refine And.intro (fun c4 => ?_) (fun c4 => ?_)
          · first | exact absurd c4 (by decide) | exact absurd (by decide) c4 | (exfalso; grind)
          · try dsimp only at c4
            refine And.intro ⟨(by first | decide | assumption | omega), (by first | decide | assumption | omega)⟩ ?_
            refine m_St_hasHouse1 (by repeat' (first | exact hR | apply OKR.pI | apply OKR.pL | apply OKR.cpI | apply OKR.wI)) (n := n) q1 h8 hj (And.intro (by repeat' (first | exact hR | apply OKR.pI | apply OKR.pL | apply OKR.cpI | apply OKR.wI)) ?_)
            refine And.intro (fun c9 => ?_) (fun c9 => ?_)
            · first | exact absurd c9 (by decide) | exact absurd (by decide) c9 | (exfalso; grind)
            · try dsimp only at c9
              refine And.intro (fun c12 => ?_) (fun c12 => ?_)
              · exact absurd c12 z
              · try dsimp only at c12
                refine m_X_isWithin (by repeat' (first | exact hR | apply OKR.pI | apply OKR.pL | apply OKR.cpI | apply OKR.wI)) (And.intro (by repeat' (first | exact hR | apply OKR.pI | apply OKR.pL | apply OKR.cpI | apply OKR.wI)) ?_)
                rw [show b2 (0 ≤ nI a ∧ nI a ≤ 99) = 1 from if_pos q]
                refine And.intro (fun c17 => ?_) (fun c17 => ?_)
                · first | exact absurd c17 (by decide) | exact absurd (by decide) c17 | (exfalso; grind)
                · try dsimp only at c17
                  refine And.intro ⟨(by first | decide | assumption | omega), (by first | decide | assumption | omega)⟩ ?_
                  refine And.intro ⟨(by first | decide | assumption | omega), (by first | decide | assumption | omega)⟩ ?_
                  refine And.intro ⟨(by first | exact vp_nI (k := j) (N := 8) (by omega) (by decide) | exact vp_nI (k := k) (N := 8) (by omega) (by decide) | (dsimp only; rw [e1]; exact vp_nI (N := 64) (by omega) (by decide))), ⟨(by decide), by rw [e0]; omega⟩⟩ ?_
                  refine And.intro (by first | exact vp_nI (k := j) (N := 8) (by omega) (by decide) | exact vp_nI (k := k) (N := 8) (by omega) (by decide) | (dsimp only; rw [e1]; exact vp_nI (N := 64) (by omega) (by decide))) ?_
                  refine And.intro ⟨(by first | decide | assumption | omega), (by first | decide | assumption | omega)⟩ ?_
                  refine And.intro ⟨(by first | decide | assumption | omega), (by first | decide | assumption | omega)⟩ ?_
                  refine And.intro ⟨(by first | exact vp_nI (k := j) (N := 8) (by omega) (by decide) | exact vp_nI (k := k) (N := 8) (by omega) (by decide) | (dsimp only; rw [e1]; exact vp_nI (N := 64) (by omega) (by decide))), ⟨(by decide), by rw [e0]; omega⟩⟩ ?_
                  refine And.intro (by first | exact vp_nI (k := j) (N := 8) (by omega) (by decide) | exact vp_nI (k := k) (N := 8) (by omega) (by decide) | (dsimp only; rw [e1]; exact vp_nI (N := 64) (by omega) (by decide))) ?_
                  refine And.intro trivial ?_
                  refine w_M_debt (Go.runR (callT_mono MT _) [] 200 (by repeat' (first | exact hR | apply OKR.pI | apply OKR.pL | apply OKR.cpI | apply OKR.wI)) ?_)
                  refine m_M_isHouse1 (by repeat' (first | exact hR | apply OKR.pI | apply OKR.pL | apply OKR.cpI | apply OKR.wI)) (n := n) q2 h8 hk (And.intro (by repeat' (first | exact hR | apply OKR.pI | apply OKR.pL | apply OKR.cpI | apply OKR.wI)) ?_)
                  refine And.intro (fun c3 => ?_) (fun c3 => ?_)
                  · first | exact absurd c3 (by decide) | exact absurd (by decide) c3 | (exfalso; grind)
                  · try dsimp only at c3
                    refine m_M_isHouse1 (by repeat' (first | exact hR | apply OKR.pI | apply OKR.pL | apply OKR.cpI | apply OKR.wI)) (n := n) q2 h8 hj (And.intro (by repeat' (first | exact hR | apply OKR.pI | apply OKR.pL | apply OKR.cpI | apply OKR.wI)) ?_)
                    refine And.intro (fun c7 => ?_) (fun c7 => ?_)
                    · first | exact absurd c7 (by decide) | exact absurd (by decide) c7 | (exfalso; grind)
                    · try dsimp only at c7
                      refine And.intro (fun c10 => ?_) (fun c10 => ?_)
                      · exact absurd c10 z
                      · try dsimp only at c10
                        refine m_M_in (by repeat' (first | exact hR | apply OKR.pI | apply OKR.pL | apply OKR.cpI | apply OKR.wI)) (And.intro (by repeat' (first | exact hR | apply OKR.pI | apply OKR.pL | apply OKR.cpI | apply OKR.wI)) ?_)
                        rw [show b2 (0 ≤ nI a ∧ nI a ≤ 99) = 1 from if_pos q]
                        refine And.intro (fun c15 => ?_) (fun c15 => ?_)
                        · first | exact absurd c15 (by decide) | exact absurd (by decide) c15 | (exfalso; grind)
                        · try dsimp only at c15
                          refine And.intro ⟨rfl, rfl, rfl⟩ ?_
                          refine And.intro (by first | exact vp_nI (k := j) (N := 8) (by omega) (by decide) | exact vp_nI (k := k) (N := 8) (by omega) (by decide) | (dsimp only; rw [e1]; exact vp_nI (N := 64) (by omega) (by decide))) ?_
                          refine And.intro ⟨rfl, rfl, rfl⟩ ?_
                          refine And.intro (by first | exact vp_nI (k := j) (N := 8) (by omega) (by decide) | exact vp_nI (k := k) (N := 8) (by omega) (by decide) | (dsimp only; rw [e1]; exact vp_nI (N := 64) (by omega) (by decide))) ?_
                          refine And.intro trivial ?_
                          dsimp only
                          rw [e1, nI_clamp (n := 8 * k + j) (by omega), e2, show 8 * 0 + (nI k).toNatClampNeg = k by omega]
                          show K (some (vi (gI m (0, 13, k) j))) (some (vi (gI m (1, 18, 0) (8 * k + j)))) _
                          rw [hh.1]
                          exact h _ _ (R.debt hc hk hj ha)
        · refine w_X_debt (Go.runR (callT_mono MT _) [] 200 (by repeat' (first | exact hR | apply OKR.pI | apply OKR.pL | apply OKR.cpI | apply OKR.wI)) ?_)
          refine And.intro ⟨(by first | decide | assumption | omega), (by first | decide | assumption | omega)⟩ ?_
          refine m_St_hasHouse1 (by repeat' (first | exact hR | apply OKR.pI | apply OKR.pL | apply OKR.cpI | apply OKR.wI)) (n := n) q1 h8 hk (And.intro (by repeat' (first | exact hR | apply OKR.pI | apply OKR.pL | apply OKR.cpI | apply OKR.wI)) ?_)
          refine And.intro (fun c4 => ?_) (fun c4 => ?_)
          · first | exact absurd c4 (by decide) | exact absurd (by decide) c4 | (exfalso; grind)
          · try dsimp only at c4
            refine And.intro ⟨(by first | decide | assumption | omega), (by first | decide | assumption | omega)⟩ ?_
            refine m_St_hasHouse1 (by repeat' (first | exact hR | apply OKR.pI | apply OKR.pL | apply OKR.cpI | apply OKR.wI)) (n := n) q1 h8 hj (And.intro (by repeat' (first | exact hR | apply OKR.pI | apply OKR.pL | apply OKR.cpI | apply OKR.wI)) ?_)
            refine And.intro (fun c9 => ?_) (fun c9 => ?_)
            · first | exact absurd c9 (by decide) | exact absurd (by decide) c9 | (exfalso; grind)
            · try dsimp only at c9
              refine And.intro (fun c12 => ?_) (fun c12 => ?_)
              · exact absurd c12 z
              · try dsimp only at c12
                refine m_X_isWithin (by repeat' (first | exact hR | apply OKR.pI | apply OKR.pL | apply OKR.cpI | apply OKR.wI)) (And.intro (by repeat' (first | exact hR | apply OKR.pI | apply OKR.pL | apply OKR.cpI | apply OKR.wI)) ?_)
                rw [show b2 (0 ≤ v ∧ v ≤ 99) = 0 from if_neg q]
                refine And.intro (fun c17 => ?_) (fun c17 => ?_)
                · try dsimp only at c17
                  refine And.intro trivial ?_
                  refine w_M_debt (Go.runR (callT_mono MT _) [] 200 (by repeat' (first | exact hR | apply OKR.pI | apply OKR.pL | apply OKR.cpI | apply OKR.wI)) ?_)
                  refine m_M_isHouse1 (by repeat' (first | exact hR | apply OKR.pI | apply OKR.pL | apply OKR.cpI | apply OKR.wI)) (n := n) q2 h8 hk (And.intro (by repeat' (first | exact hR | apply OKR.pI | apply OKR.pL | apply OKR.cpI | apply OKR.wI)) ?_)
                  refine And.intro (fun c3 => ?_) (fun c3 => ?_)
                  · first | exact absurd c3 (by decide) | exact absurd (by decide) c3 | (exfalso; grind)
                  · try dsimp only at c3
                    refine m_M_isHouse1 (by repeat' (first | exact hR | apply OKR.pI | apply OKR.pL | apply OKR.cpI | apply OKR.wI)) (n := n) q2 h8 hj (And.intro (by repeat' (first | exact hR | apply OKR.pI | apply OKR.pL | apply OKR.cpI | apply OKR.wI)) ?_)
                    refine And.intro (fun c7 => ?_) (fun c7 => ?_)
                    · first | exact absurd c7 (by decide) | exact absurd (by decide) c7 | (exfalso; grind)
                    · try dsimp only at c7
                      refine And.intro (fun c10 => ?_) (fun c10 => ?_)
                      · exact absurd c10 z
                      · try dsimp only at c10
                        refine m_M_in (by repeat' (first | exact hR | apply OKR.pI | apply OKR.pL | apply OKR.cpI | apply OKR.wI)) (And.intro (by repeat' (first | exact hR | apply OKR.pI | apply OKR.pL | apply OKR.cpI | apply OKR.wI)) ?_)
                        rw [show b2 (0 ≤ v ∧ v ≤ 99) = 0 from if_neg q]
                        refine And.intro (fun c15 => ?_) (fun c15 => ?_)
                        · try dsimp only at c15
                          refine And.intro trivial ?_
                          exact h _ _ R
                        · first | exact absurd c15 (by decide) | exact absurd (by decide) c15 | (exfalso; grind)
                · first | exact absurd c17 (by decide) | exact absurd (by decide) c17 | (exfalso; grind)
