/-! Written by a program (wip/whole/p39.py): pay. -/
theorem RelAB.pay {m : Mem} (R : RelAB m) {n j a : Nat} (hc : CurR n m) (hj : j < n) (ha : a ≤ 999) : RelAB (pI (pI m (0, 8, j) 4 (nI a)) (1, 11, 0) j (nI a)) := by
  obtain ⟨h8, hm, -, h1⟩ := hc
  obtain ⟨hl, ⟨H, s1, s2⟩, hk⟩ := h1 (by omega)
  have e8 : ∀ i k, gI (pI (pI m (0, 8, j) 4 (nI a)) (1, 11, 0) j (nI a)) (0, 8, i) k = if i = j ∧ k = 4 then nI a else gI m (0, 8, i) k := fun i k => by rw [rd10, rd00]; simp
  have e9 : ∀ k, gI (pI (pI m (0, 8, j) 4 (nI a)) (1, 11, 0) j (nI a)) (1, 11, 0) k = if k = j then nI a else gI m (1, 11, 0) k := fun k => by rw [rd11, rd01]; simp
  refine R.ofCur (n := n) R.1.pI.pI ⟨h8, hm, fun z => absurd z (by omega), fun _ => ⟨LoudR.cg (m := m) h8 (fun i => kn_rw (fun _ => rfl) i) (fun _ => rfl) (fun _ => rfl) (fun i _ => by rw [e8, if_neg (by omega)]) rfl rfl hl, ⟨H, s1, ?_⟩, fun k hk3 => KeptR.cg (m := m) h8 (fun _ => rfl) (fun i q _ => by rw [e8, if_neg (by omega)]) (fun _ _ _ => rfl) (fun _ _ _ => rfl) (fun _ _ _ => rfl) (fun _ => rfl) (fun i => kn_rw (fun _ => rfl) i) (fun i _ => by rw [e8, if_neg (by omega)]) rfl (hk k hk3)⟩⟩ (fun t i k q => by rw [rd10, rd00, if_neg (by omega)]) (fun t k q => by rw [rd11, rd01, if_neg (by omega)]) R.2.2.2.1
  obtain ⟨a1, a2, a3, a4, a5, a6, a7, a8, a9⟩ := s2
  refine ⟨a1, a2, a3, a4, a5, a6, fun i hi => ?_, a8, a9⟩
  have := a7 i hi
  unfold HoR at *
  rw [show 8 * 0 + i = i by omega] at *
  rw [e8, e8, e8, e9, if_neg (by omega : ¬ (i = j ∧ 2 = 4)), if_neg (by omega : ¬ (i = j ∧ 3 = 4))]
  by_cases h : i = j
  · rw [if_pos ⟨h, rfl⟩, if_pos h]
    exact ⟨this.1, this.2.1, this.2.2.1, rfl, a, ha, rfl⟩
  · rw [if_neg (by omega), if_neg h]
    exact this

theorem p_pay {d : Nat} {m : Mem} {K : Option Vv → Option Vv → Mem → Prop} (R : RelAB m) {i v : Int32} (h : ∀ v m', RelAB m' → K v v m') : cW (d + 3) n_X_pay [vo 0 0 0, vi i, vi v] m (fun u m1 => cW (d + 3) n_M_pay [vo 1 0 0, vi i, vi v] m1 (fun w m2 => K u w m2)) := by
  have hR := R.1
  obtain ⟨n, hc⟩ := R.2.2.2.2
  have ht := R.2.2.2.1
  obtain ⟨q1, q2⟩ := hc.many
  have h8 := hc.le
  rcases RelAB.placeCase (n := n) (by omega) i with q | ⟨j, hj, rfl⟩
  · refine w_X_pay (Go.runR (callT_mono MT _) [] 200 (by repeat' (first | exact hR | apply OKR.pI | apply OKR.pL | apply OKR.cpI | apply OKR.wI)) ?_)
    refine And.intro ⟨(by first | decide | assumption | omega), (by first | decide | assumption | omega)⟩ ?_
    refine m_St_hasHouse0 (by repeat' (first | exact hR | apply OKR.pI | apply OKR.pL | apply OKR.cpI | apply OKR.wI)) (n := n) q1 q (And.intro (by repeat' (first | exact hR | apply OKR.pI | apply OKR.pL | apply OKR.cpI | apply OKR.wI)) ?_)
    refine And.intro (fun c4 => ?_) (fun c4 => ?_)
    · try dsimp only at c4
      refine And.intro trivial ?_
      refine w_M_pay (Go.runR (callT_mono MT _) [] 200 (by repeat' (first | exact hR | apply OKR.pI | apply OKR.pL | apply OKR.cpI | apply OKR.wI)) ?_)
      refine m_M_isHouse0 (by repeat' (first | exact hR | apply OKR.pI | apply OKR.pL | apply OKR.cpI | apply OKR.wI)) (n := n) q2 h8 q (And.intro (by repeat' (first | exact hR | apply OKR.pI | apply OKR.pL | apply OKR.cpI | apply OKR.wI)) ?_)
      refine And.intro (fun c3 => ?_) (fun c3 => ?_)
      · try dsimp only at c3
        refine And.intro trivial ?_
        exact h _ _ R
      · first | exact absurd c3 (by decide) | exact absurd (by decide) c3 | (exfalso; grind)
    · first | exact absurd c4 (by decide) | exact absurd (by decide) c4 | (exfalso; grind)
  · have e0 : (nI j).toNatClampNeg = j := nI_clamp (by omega)
    obtain ⟨-, -, -, hh, w, hw, hp⟩ := hc.house hj
    have hp0 : gI m (0, 8, 8 * 0 + (nI j).toNatClampNeg) 4 = nI w := by rw [e0, show 8 * 0 + j = j by omega, hh, hp]
    have hp1 : gI m (1, 11, 0) (nI j).toNatClampNeg = nI w := by rw [e0, hp]
    by_cases q : 0 ≤ v ∧ v ≤ 99
    · obtain ⟨a, ha, rfl⟩ := nI_of2 (x := v) (M := 99) (n := 99) rfl (by grind) q.2
      by_cases z : w + a ≤ 999
      · have z2 : nI w + nI a ≤ 999 := by rw [nI_add]; exact nI_le (b := 999) z (by decide)
        refine w_X_pay (Go.runR (callT_mono MT _) [] 200 (by repeat' (first | exact hR | apply OKR.pI | apply OKR.pL | apply OKR.cpI | apply OKR.wI)) ?_)
        refine And.intro ⟨(by first | decide | assumption | omega), (by first | decide | assumption | omega)⟩ ?_
        refine m_St_hasHouse1 (by repeat' (first | exact hR | apply OKR.pI | apply OKR.pL | apply OKR.cpI | apply OKR.wI)) (n := n) q1 h8 hj (And.intro (by repeat' (first | exact hR | apply OKR.pI | apply OKR.pL | apply OKR.cpI | apply OKR.wI)) ?_)
        refine And.intro (fun c4 => ?_) (fun c4 => ?_)
        · first | exact absurd c4 (by decide) | exact absurd (by decide) c4 | (exfalso; grind)
        · try dsimp only at c4
          refine m_X_isWithin (by repeat' (first | exact hR | apply OKR.pI | apply OKR.pL | apply OKR.cpI | apply OKR.wI)) (And.intro (by repeat' (first | exact hR | apply OKR.pI | apply OKR.pL | apply OKR.cpI | apply OKR.wI)) ?_)
          rw [show b2 (0 ≤ nI a ∧ nI a ≤ 99) = 1 from if_pos q]
          refine And.intro (fun c9 => ?_) (fun c9 => ?_)
          · first | exact absurd c9 (by decide) | exact absurd (by decide) c9 | (exfalso; grind)
          · try dsimp only at c9
            refine And.intro ⟨(by first | decide | assumption | omega), (by first | decide | assumption | omega)⟩ ?_
            refine And.intro ⟨(by first | decide | assumption | omega), (by first | decide | assumption | omega)⟩ ?_
            refine And.intro ⟨(by first | exact vp_nI (k := j) (N := 8) (by omega) (by decide) | exact vp_nI (k := j) (N := 16) (by omega) (by decide)), ⟨(by decide), by rw [e0]; omega⟩⟩ ?_
            refine And.intro (fun c23 => ?_) (fun c23 => ?_)
            · try dsimp only at c23
              refine And.intro trivial ?_
              refine w_M_pay (Go.runR (callT_mono MT _) [] 200 (by repeat' (first | exact hR | apply OKR.pI | apply OKR.pL | apply OKR.cpI | apply OKR.wI)) ?_)
              refine m_M_isHouse1 (by repeat' (first | exact hR | apply OKR.pI | apply OKR.pL | apply OKR.cpI | apply OKR.wI)) (n := n) q2 h8 hj (And.intro (by repeat' (first | exact hR | apply OKR.pI | apply OKR.pL | apply OKR.cpI | apply OKR.wI)) ?_)
              refine And.intro (fun c3 => ?_) (fun c3 => ?_)
              · first | exact absurd c3 (by decide) | exact absurd (by decide) c3 | (exfalso; grind)
              · try dsimp only at c3
                refine m_M_in (by repeat' (first | exact hR | apply OKR.pI | apply OKR.pL | apply OKR.cpI | apply OKR.wI)) (And.intro (by repeat' (first | exact hR | apply OKR.pI | apply OKR.pL | apply OKR.cpI | apply OKR.wI)) ?_)
                rw [show b2 (0 ≤ nI a ∧ nI a ≤ 99) = 1 from if_pos q]
                refine And.intro (fun c8 => ?_) (fun c8 => ?_)
                · first | exact absurd c8 (by decide) | exact absurd (by decide) c8 | (exfalso; grind)
                · try dsimp only at c8
                  refine And.intro ⟨rfl, rfl, rfl⟩ ?_
                  refine And.intro (by first | exact vp_nI (k := j) (N := 8) (by omega) (by decide) | exact vp_nI (k := j) (N := 16) (by omega) (by decide)) ?_
                  refine And.intro (fun c18 => ?_) (fun c18 => ?_)
                  · try dsimp only at c18
                    refine And.intro ⟨rfl, rfl, rfl⟩ ?_
                    refine And.intro (by first | exact vp_nI (k := j) (N := 8) (by omega) (by decide) | exact vp_nI (k := j) (N := 16) (by omega) (by decide)) ?_
                    refine And.intro (by first | exact vp_nI (k := j) (N := 8) (by omega) (by decide) | exact vp_nI (k := j) (N := 16) (by omega) (by decide)) ?_
                    refine And.intro ⟨rfl, rfl, rfl⟩ ?_
                    refine And.intro (by first | exact vp_nI (k := j) (N := 8) (by omega) (by decide) | exact vp_nI (k := j) (N := 16) (by omega) (by decide)) ?_
                    refine And.intro trivial ?_
                    rw [e0, show 8 * 0 + j = j by omega]
                    have f1 : gI m (0, 8, j) 4 + nI a = nI (w + a) := by rw [hh, hp, nI_add]
                    have f2 : gI m (1, 11, 0) j + nI a = nI (w + a) := by rw [hp, nI_add]
                    have g1 : gI (pI m (0, 8, j) 4 (gI m (0, 8, j) 4 + nI a)) (0, 8, j) 4 = nI (w + a) := by rw [rd00, if_pos ⟨rfl, rfl, rfl⟩, f1]
                    have g2 : ∀ m', gI (pI m' (1, 11, 0) j (nI (w + a))) (1, 11, 0) j = nI (w + a) := fun m' => by rw [rd11, if_pos ⟨rfl, rfl, rfl⟩]
                    have key := h (some (vi (nI (w + a)))) _ (R.pay hc hj z)
                    rw [← f1] at key
                    show K (some (vi (gI (pI m (0, 8, j) 4 (gI m (0, 8, j) 4 + nI a)) (0, 8, j) 4))) (some (vi (gI (pI (pI m (0, 8, j) 4 (gI m (0, 8, j) 4 + nI a)) (1, 11, 0) j (gI m (1, 11, 0) j + nI a)) (1, 11, 0) j))) (pI (pI m (0, 8, j) 4 (gI m (0, 8, j) 4 + nI a)) (1, 11, 0) j (gI m (1, 11, 0) j + nI a))
                    rw [g1, f2, g2, f1]
                    rw [f1] at key
                    exact key
                  · exact absurd (by rw [← hp1] at z2; exact z2) c18
            · exact absurd (by rw [← hp0] at z2; exact z2) c23
      · have z2 : ¬ nI w + nI a ≤ 999 := by
          rw [nI_add]
          exact nI_ge (a := 999) (by omega) (by omega)
        refine w_X_pay (Go.runR (callT_mono MT _) [] 200 (by repeat' (first | exact hR | apply OKR.pI | apply OKR.pL | apply OKR.cpI | apply OKR.wI)) ?_)
        refine And.intro ⟨(by first | decide | assumption | omega), (by first | decide | assumption | omega)⟩ ?_
        refine m_St_hasHouse1 (by repeat' (first | exact hR | apply OKR.pI | apply OKR.pL | apply OKR.cpI | apply OKR.wI)) (n := n) q1 h8 hj (And.intro (by repeat' (first | exact hR | apply OKR.pI | apply OKR.pL | apply OKR.cpI | apply OKR.wI)) ?_)
        refine And.intro (fun c4 => ?_) (fun c4 => ?_)
        · first | exact absurd c4 (by decide) | exact absurd (by decide) c4 | (exfalso; grind)
        · try dsimp only at c4
          refine m_X_isWithin (by repeat' (first | exact hR | apply OKR.pI | apply OKR.pL | apply OKR.cpI | apply OKR.wI)) (And.intro (by repeat' (first | exact hR | apply OKR.pI | apply OKR.pL | apply OKR.cpI | apply OKR.wI)) ?_)
          rw [show b2 (0 ≤ nI a ∧ nI a ≤ 99) = 1 from if_pos q]
          refine And.intro (fun c9 => ?_) (fun c9 => ?_)
          · first | exact absurd c9 (by decide) | exact absurd (by decide) c9 | (exfalso; grind)
          · try dsimp only at c9
            refine And.intro ⟨(by first | decide | assumption | omega), (by first | decide | assumption | omega)⟩ ?_
            refine And.intro ⟨(by first | decide | assumption | omega), (by first | decide | assumption | omega)⟩ ?_
            refine And.intro ⟨(by first | exact vp_nI (k := j) (N := 8) (by omega) (by decide) | exact vp_nI (k := j) (N := 16) (by omega) (by decide)), ⟨(by decide), by rw [e0]; omega⟩⟩ ?_
            refine And.intro (fun c23 => ?_) (fun c23 => ?_)
            · exact absurd (by rw [← hp0]; exact c23) z2
            · try dsimp only at c23
              refine And.intro trivial ?_
              refine w_M_pay (Go.runR (callT_mono MT _) [] 200 (by repeat' (first | exact hR | apply OKR.pI | apply OKR.pL | apply OKR.cpI | apply OKR.wI)) ?_)
              refine m_M_isHouse1 (by repeat' (first | exact hR | apply OKR.pI | apply OKR.pL | apply OKR.cpI | apply OKR.wI)) (n := n) q2 h8 hj (And.intro (by repeat' (first | exact hR | apply OKR.pI | apply OKR.pL | apply OKR.cpI | apply OKR.wI)) ?_)
              refine And.intro (fun c3 => ?_) (fun c3 => ?_)
              · first | exact absurd c3 (by decide) | exact absurd (by decide) c3 | (exfalso; grind)
              · try dsimp only at c3
                refine m_M_in (by repeat' (first | exact hR | apply OKR.pI | apply OKR.pL | apply OKR.cpI | apply OKR.wI)) (And.intro (by repeat' (first | exact hR | apply OKR.pI | apply OKR.pL | apply OKR.cpI | apply OKR.wI)) ?_)
                rw [show b2 (0 ≤ nI a ∧ nI a ≤ 99) = 1 from if_pos q]
                refine And.intro (fun c8 => ?_) (fun c8 => ?_)
                · first | exact absurd c8 (by decide) | exact absurd (by decide) c8 | (exfalso; grind)
                · try dsimp only at c8
                  refine And.intro ⟨rfl, rfl, rfl⟩ ?_
                  refine And.intro (by first | exact vp_nI (k := j) (N := 8) (by omega) (by decide) | exact vp_nI (k := j) (N := 16) (by omega) (by decide)) ?_
                  refine And.intro (fun c18 => ?_) (fun c18 => ?_)
                  · exact absurd (by rw [← hp1]; exact c18) z2
                  · try dsimp only at c18
                    refine And.intro trivial ?_
                    exact h _ _ R
    · refine w_X_pay (Go.runR (callT_mono MT _) [] 200 (by repeat' (first | exact hR | apply OKR.pI | apply OKR.pL | apply OKR.cpI | apply OKR.wI)) ?_)
      refine And.intro ⟨(by first | decide | assumption | omega), (by first | decide | assumption | omega)⟩ ?_
      refine m_St_hasHouse1 (by repeat' (first | exact hR | apply OKR.pI | apply OKR.pL | apply OKR.cpI | apply OKR.wI)) (n := n) q1 h8 hj (And.intro (by repeat' (first | exact hR | apply OKR.pI | apply OKR.pL | apply OKR.cpI | apply OKR.wI)) ?_)
      refine And.intro (fun c4 => ?_) (fun c4 => ?_)
      · first | exact absurd c4 (by decide) | exact absurd (by decide) c4 | (exfalso; grind)
      · try dsimp only at c4
        refine m_X_isWithin (by repeat' (first | exact hR | apply OKR.pI | apply OKR.pL | apply OKR.cpI | apply OKR.wI)) (And.intro (by repeat' (first | exact hR | apply OKR.pI | apply OKR.pL | apply OKR.cpI | apply OKR.wI)) ?_)
        rw [show b2 (0 ≤ v ∧ v ≤ 99) = 0 from if_neg q]
        refine And.intro (fun c9 => ?_) (fun c9 => ?_)
        · try dsimp only at c9
          refine And.intro trivial ?_
          refine w_M_pay (Go.runR (callT_mono MT _) [] 200 (by repeat' (first | exact hR | apply OKR.pI | apply OKR.pL | apply OKR.cpI | apply OKR.wI)) ?_)
          refine m_M_isHouse1 (by repeat' (first | exact hR | apply OKR.pI | apply OKR.pL | apply OKR.cpI | apply OKR.wI)) (n := n) q2 h8 hj (And.intro (by repeat' (first | exact hR | apply OKR.pI | apply OKR.pL | apply OKR.cpI | apply OKR.wI)) ?_)
          refine And.intro (fun c3 => ?_) (fun c3 => ?_)
          · first | exact absurd c3 (by decide) | exact absurd (by decide) c3 | (exfalso; grind)
          · try dsimp only at c3
            refine m_M_in (by repeat' (first | exact hR | apply OKR.pI | apply OKR.pL | apply OKR.cpI | apply OKR.wI)) (And.intro (by repeat' (first | exact hR | apply OKR.pI | apply OKR.pL | apply OKR.cpI | apply OKR.wI)) ?_)
            rw [show b2 (0 ≤ v ∧ v ≤ 99) = 0 from if_neg q]
            refine And.intro (fun c8 => ?_) (fun c8 => ?_)
            · try dsimp only at c8
              refine And.intro trivial ?_
              exact h _ _ R
            · first | exact absurd c8 (by decide) | exact absurd (by decide) c8 | (exfalso; grind)
        · first | exact absurd c9 (by decide) | exact absurd (by decide) c9 | (exfalso; grind)
