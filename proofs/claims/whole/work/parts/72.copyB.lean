/-! Written by a program (wip/whole/p72.py): copy, both sides. -/
theorem RelAB.rowB {m : Mem} (R : RelAB m) {a : Nat} (ha : a < 6) : (gI m (0, 1, a) 1 = -1 ∧ gI m (1, 2, 0) a = -9) ∨ ∃ n, n ≤ 40 ∧ gI m (0, 1, a) 1 = nI n ∧ gI m (1, 2, 0) a = nI n ∧ ∀ k, k < n → gI m (0, 2, a) k = gI m (1, 3, 0) (40 * a + k) := R.2.1 a ha

theorem p_copy {d : Nat} {m : Mem} {K : Option Vv → Option Vv → Mem → Prop} (R : RelAB m) {r i t j c' : Int32} (h : ∀ v m', RelAB m' → K v v m') : cW (d + 5) n_X_copy [vo 0 0 0, vi r, vi i, vi t, vi j, vi c'] m (fun u m1 => cW (d + 5) n_M_copy [vo 1 0 0, vi r, vi i, vi t, vi j, vi c'] m1 (fun w m2 => K u w m2)) := by
  have hR := R.1
  obtain ⟨n, hc⟩ := R.2.2.2.2
  have ht := R.2.2.2.1
  by_cases q1 : 0 ≤ r ∧ r ≤ 5
  · obtain ⟨a, ha, rfl⟩ := row_of2 q1
    have ea : (nI a).toNatClampNeg = a := nI_clamp (by omega)
    by_cases q2 : 0 ≤ t ∧ t ≤ 5
    · obtain ⟨b, hb, rfl⟩ := row_of2 q2
      have eb : (nI b).toNatClampNeg = b := nI_clamp (by omega)
      by_cases qn : c' < 0
      · refine w_X_copy (Go.runR (callT_mono MT _) [] 200 (by repeat' (first | exact hR | apply OKR.pI | apply OKR.pL | apply OKR.cpI | apply OKR.wI)) ?_)
        refine m_X_isRow1 (by repeat' (first | exact hR | apply OKR.pI | apply OKR.pL | apply OKR.cpI | apply OKR.wI)) ha (And.intro (by repeat' (first | exact hR | apply OKR.pI | apply OKR.pL | apply OKR.cpI | apply OKR.wI)) ?_)
        refine And.intro (fun c3 => ?_) (fun c3 => ?_)
        · first | exact absurd c3 (by decide) | exact absurd (by decide) c3 | (exfalso; grind)
        · try dsimp only at c3
          refine m_X_isRow1 (by repeat' (first | exact hR | apply OKR.pI | apply OKR.pL | apply OKR.cpI | apply OKR.wI)) hb (And.intro (by repeat' (first | exact hR | apply OKR.pI | apply OKR.pL | apply OKR.cpI | apply OKR.wI)) ?_)
          refine And.intro (fun c7 => ?_) (fun c7 => ?_)
          · first | exact absurd c7 (by decide) | exact absurd (by decide) c7 | (exfalso; grind)
          · try dsimp only at c7
            refine And.intro (fun c11 => ?_) (fun c11 => ?_)
            · exact absurd qn (Int32.not_lt.mpr c11)
            · try dsimp only at c11
              refine m_X_found5 (by repeat' (first | exact hR | apply OKR.pI | apply OKR.pL | apply OKR.cpI | apply OKR.wI))  (And.intro (by repeat' (first | exact hR | apply OKR.pI | apply OKR.pL | apply OKR.cpI | apply OKR.wI)) ?_)
              refine And.intro trivial ?_
              refine w_M_copy (Go.runR (callT_mono MT _) [62, 79] 200 (by repeat' (first | exact hR | apply OKR.pI | apply OKR.pL | apply OKR.cpI | apply OKR.wI)) ?_)
              refine m_M_isRow1 (by repeat' (first | exact hR | apply OKR.pI | apply OKR.pL | apply OKR.cpI | apply OKR.wI)) ha (And.intro (by repeat' (first | exact hR | apply OKR.pI | apply OKR.pL | apply OKR.cpI | apply OKR.wI)) ?_)
              refine And.intro (fun c2 => ?_) (fun c2 => ?_)
              · first | exact absurd c2 (by decide) | exact absurd (by decide) c2 | (exfalso; grind)
              · try dsimp only at c2
                refine m_M_isRow1 (by repeat' (first | exact hR | apply OKR.pI | apply OKR.pL | apply OKR.cpI | apply OKR.wI)) hb (And.intro (by repeat' (first | exact hR | apply OKR.pI | apply OKR.pL | apply OKR.cpI | apply OKR.wI)) ?_)
                refine And.intro (fun c5 => ?_) (fun c5 => ?_)
                · first | exact absurd c5 (by decide) | exact absurd (by decide) c5 | (exfalso; grind)
                · try dsimp only at c5
                  refine And.intro (fun c9 => ?_) (fun c9 => ?_)
                  · exact absurd qn (Int32.not_lt.mpr c9)
                  · try dsimp only at c9
                    refine m_M_meet5 (by repeat' (first | exact hR | apply OKR.pI | apply OKR.pL | apply OKR.cpI | apply OKR.wI))  (And.intro (by repeat' (first | exact hR | apply OKR.pI | apply OKR.pL | apply OKR.cpI | apply OKR.wI)) ?_)
                    refine And.intro trivial ?_
                    exact h _ _ (R.meet (by omega) (by omega))
      · obtain ⟨c, hc, rfl⟩ := nI_of qn
        rcases R.rowB ha with ⟨s1, s2⟩ | ⟨na, hna, s1, s2, s3⟩
        · refine w_X_copy (Go.runR (callT_mono MT _) [] 200 (by repeat' (first | exact hR | apply OKR.pI | apply OKR.pL | apply OKR.cpI | apply OKR.wI)) ?_)
          refine m_X_isRow1 (by repeat' (first | exact hR | apply OKR.pI | apply OKR.pL | apply OKR.cpI | apply OKR.wI)) ha (And.intro (by repeat' (first | exact hR | apply OKR.pI | apply OKR.pL | apply OKR.cpI | apply OKR.wI)) ?_)
          refine And.intro (fun c3 => ?_) (fun c3 => ?_)
          · first | exact absurd c3 (by decide) | exact absurd (by decide) c3 | (exfalso; grind)
          · try dsimp only at c3
            refine m_X_isRow1 (by repeat' (first | exact hR | apply OKR.pI | apply OKR.pL | apply OKR.cpI | apply OKR.wI)) hb (And.intro (by repeat' (first | exact hR | apply OKR.pI | apply OKR.pL | apply OKR.cpI | apply OKR.wI)) ?_)
            refine And.intro (fun c7 => ?_) (fun c7 => ?_)
            · first | exact absurd c7 (by decide) | exact absurd (by decide) c7 | (exfalso; grind)
            · try dsimp only at c7
              refine And.intro (fun c11 => ?_) (fun c11 => ?_)
              · try dsimp only at c11
                refine And.intro ⟨(by first | decide | assumption | omega), (by first | decide | assumption | omega)⟩ ?_
                refine And.intro ⟨(by first | exact vp_nI (k := a) (N := 6) ha (by decide) | exact vp_nI (k := b) (N := 6) hb (by decide)), (by first | exact ⟨rfl, by rw [ea]; exact ha⟩ | exact ⟨rfl, by rw [eb]; exact hb⟩)⟩ ?_
                rw [show (nI a).toNatClampNeg = a from ea]
                refine m_Ce_isMissing1 (by repeat' (first | exact hR | apply OKR.pI | apply OKR.pL | apply OKR.cpI | apply OKR.wI)) s1 (And.intro (by repeat' (first | exact hR | apply OKR.pI | apply OKR.pL | apply OKR.cpI | apply OKR.wI)) ?_)
                refine And.intro (fun c21 => ?_) (fun c21 => ?_)
                · first | exact absurd c21 (by decide) | exact absurd (by decide) c21 | (exfalso; grind)
                · try dsimp only at c21
                  refine m_X_found1 (by repeat' (first | exact hR | apply OKR.pI | apply OKR.pL | apply OKR.cpI | apply OKR.wI))  (And.intro (by repeat' (first | exact hR | apply OKR.pI | apply OKR.pL | apply OKR.cpI | apply OKR.wI)) ?_)
                  refine And.intro trivial ?_
                  refine w_M_copy (Go.runR (callT_mono MT _) [62, 79] 200 (by repeat' (first | exact hR | apply OKR.pI | apply OKR.pL | apply OKR.cpI | apply OKR.wI)) ?_)
                  refine m_M_isRow1 (by repeat' (first | exact hR | apply OKR.pI | apply OKR.pL | apply OKR.cpI | apply OKR.wI)) ha (And.intro (by repeat' (first | exact hR | apply OKR.pI | apply OKR.pL | apply OKR.cpI | apply OKR.wI)) ?_)
                  refine And.intro (fun c2 => ?_) (fun c2 => ?_)
                  · first | exact absurd c2 (by decide) | exact absurd (by decide) c2 | (exfalso; grind)
                  · try dsimp only at c2
                    refine m_M_isRow1 (by repeat' (first | exact hR | apply OKR.pI | apply OKR.pL | apply OKR.cpI | apply OKR.wI)) hb (And.intro (by repeat' (first | exact hR | apply OKR.pI | apply OKR.pL | apply OKR.cpI | apply OKR.wI)) ?_)
                    refine And.intro (fun c5 => ?_) (fun c5 => ?_)
                    · first | exact absurd c5 (by decide) | exact absurd (by decide) c5 | (exfalso; grind)
                    · try dsimp only at c5
                      refine And.intro (fun c9 => ?_) (fun c9 => ?_)
                      · try dsimp only at c9
                        refine And.intro ⟨rfl, rfl, rfl⟩ ?_
                        refine And.intro (vp_nI (N := 6) ha (by decide)) ?_
                        refine And.intro (fun c18 => ?_) (fun c18 => ?_)
                        · try dsimp only at c18
                          refine m_M_meet1 (by repeat' (first | exact hR | apply OKR.pI | apply OKR.pL | apply OKR.cpI | apply OKR.wI))  (And.intro (by repeat' (first | exact hR | apply OKR.pI | apply OKR.pL | apply OKR.cpI | apply OKR.wI)) ?_)
                          refine And.intro trivial ?_
                          exact h _ _ (R.meet (by omega) (by omega))
                        · exact absurd (show gI (foundM m 1) (1, 2, 0) (nI a).toNatClampNeg < 0 by rw [ea, show gI (foundM m 1) (1, 2, 0) a = -9 from s2]; decide) c18
                      · exact absurd (nI_pos' (by omega)) c9
              · exact absurd (nI_pos' (by omega)) c11
        · rcases R.rowB hb with ⟨u1, u2⟩ | ⟨nb, hnb, u1, u2, u3⟩
          · refine w_X_copy (Go.runR (callT_mono MT _) [] 200 (by repeat' (first | exact hR | apply OKR.pI | apply OKR.pL | apply OKR.cpI | apply OKR.wI)) ?_)
            refine m_X_isRow1 (by repeat' (first | exact hR | apply OKR.pI | apply OKR.pL | apply OKR.cpI | apply OKR.wI)) ha (And.intro (by repeat' (first | exact hR | apply OKR.pI | apply OKR.pL | apply OKR.cpI | apply OKR.wI)) ?_)
            refine And.intro (fun c3 => ?_) (fun c3 => ?_)
            · first | exact absurd c3 (by decide) | exact absurd (by decide) c3 | (exfalso; grind)
            · try dsimp only at c3
              refine m_X_isRow1 (by repeat' (first | exact hR | apply OKR.pI | apply OKR.pL | apply OKR.cpI | apply OKR.wI)) hb (And.intro (by repeat' (first | exact hR | apply OKR.pI | apply OKR.pL | apply OKR.cpI | apply OKR.wI)) ?_)
              refine And.intro (fun c7 => ?_) (fun c7 => ?_)
              · first | exact absurd c7 (by decide) | exact absurd (by decide) c7 | (exfalso; grind)
              · try dsimp only at c7
                refine And.intro (fun c11 => ?_) (fun c11 => ?_)
                · try dsimp only at c11
                  refine And.intro ⟨(by first | decide | assumption | omega), (by first | decide | assumption | omega)⟩ ?_
                  refine And.intro ⟨(by first | exact vp_nI (k := a) (N := 6) ha (by decide) | exact vp_nI (k := b) (N := 6) hb (by decide)), (by first | exact ⟨rfl, by rw [ea]; exact ha⟩ | exact ⟨rfl, by rw [eb]; exact hb⟩)⟩ ?_
                  rw [show (nI a).toNatClampNeg = a from ea]
                  refine m_Ce_isMissing0 (by repeat' (first | exact hR | apply OKR.pI | apply OKR.pL | apply OKR.cpI | apply OKR.wI)) (n := na) (by omega) s1 (And.intro (by repeat' (first | exact hR | apply OKR.pI | apply OKR.pL | apply OKR.cpI | apply OKR.wI)) ?_)
                  refine And.intro (fun c21 => ?_) (fun c21 => ?_)
                  · try dsimp only at c21
                    refine And.intro ⟨(by first | decide | assumption | omega), (by first | decide | assumption | omega)⟩ ?_
                    refine And.intro ⟨(by first | exact vp_nI (k := a) (N := 6) ha (by decide) | exact vp_nI (k := b) (N := 6) hb (by decide)), (by first | exact ⟨rfl, by rw [ea]; exact ha⟩ | exact ⟨rfl, by rw [eb]; exact hb⟩)⟩ ?_
                    rw [show (nI b).toNatClampNeg = b from eb]
                    refine m_Ce_isMissing1 (by repeat' (first | exact hR | apply OKR.pI | apply OKR.pL | apply OKR.cpI | apply OKR.wI)) u1 (And.intro (by repeat' (first | exact hR | apply OKR.pI | apply OKR.pL | apply OKR.cpI | apply OKR.wI)) ?_)
                    refine And.intro (fun c27 => ?_) (fun c27 => ?_)
                    · first | exact absurd c27 (by decide) | exact absurd (by decide) c27 | (exfalso; grind)
                    · try dsimp only at c27
                      refine m_X_found1 (by repeat' (first | exact hR | apply OKR.pI | apply OKR.pL | apply OKR.cpI | apply OKR.wI))  (And.intro (by repeat' (first | exact hR | apply OKR.pI | apply OKR.pL | apply OKR.cpI | apply OKR.wI)) ?_)
                      refine And.intro trivial ?_
                      refine w_M_copy (Go.runR (callT_mono MT _) [62, 79] 200 (by repeat' (first | exact hR | apply OKR.pI | apply OKR.pL | apply OKR.cpI | apply OKR.wI)) ?_)
                      refine m_M_isRow1 (by repeat' (first | exact hR | apply OKR.pI | apply OKR.pL | apply OKR.cpI | apply OKR.wI)) ha (And.intro (by repeat' (first | exact hR | apply OKR.pI | apply OKR.pL | apply OKR.cpI | apply OKR.wI)) ?_)
                      refine And.intro (fun c2 => ?_) (fun c2 => ?_)
                      · first | exact absurd c2 (by decide) | exact absurd (by decide) c2 | (exfalso; grind)
                      · try dsimp only at c2
                        refine m_M_isRow1 (by repeat' (first | exact hR | apply OKR.pI | apply OKR.pL | apply OKR.cpI | apply OKR.wI)) hb (And.intro (by repeat' (first | exact hR | apply OKR.pI | apply OKR.pL | apply OKR.cpI | apply OKR.wI)) ?_)
                        refine And.intro (fun c5 => ?_) (fun c5 => ?_)
                        · first | exact absurd c5 (by decide) | exact absurd (by decide) c5 | (exfalso; grind)
                        · try dsimp only at c5
                          refine And.intro (fun c9 => ?_) (fun c9 => ?_)
                          · try dsimp only at c9
                            refine And.intro ⟨rfl, rfl, rfl⟩ ?_
                            refine And.intro (vp_nI (N := 6) ha (by decide)) ?_
                            refine And.intro (fun c18 => ?_) (fun c18 => ?_)
                            · exact absurd (show gI (foundM m 1) (1, 2, 0) (nI a).toNatClampNeg < 0 from c18) (by rw [ea, show gI (foundM m 1) (1, 2, 0) a = nI na from s2]; exact nI_pos (by omega))
                            · try dsimp only at c18
                              refine And.intro ⟨rfl, rfl, rfl⟩ ?_
                              refine And.intro (vp_nI (N := 6) hb (by decide)) ?_
                              refine And.intro (fun c23 => ?_) (fun c23 => ?_)
                              · exact absurd (show 0 ≤ gI (foundM m 1) (1, 2, 0) (nI b).toNatClampNeg from c23) (by rw [eb, show gI (foundM m 1) (1, 2, 0) b = -9 from u2]; decide)
                              · try dsimp only at c23
                                refine m_M_meet1 (by repeat' (first | exact hR | apply OKR.pI | apply OKR.pL | apply OKR.cpI | apply OKR.wI))  (And.intro (by repeat' (first | exact hR | apply OKR.pI | apply OKR.pL | apply OKR.cpI | apply OKR.wI)) ?_)
                                refine And.intro trivial ?_
                                exact h _ _ (R.meet (by omega) (by omega))
                          · exact absurd (nI_pos' (by omega)) c9
                  · first | exact absurd c21 (by decide) | exact absurd (by decide) c21 | (exfalso; grind)
                · exact absurd (nI_pos' (by omega)) c11
          · by_cases qi : i < 0
            · refine w_X_copy (Go.runR (callT_mono MT _) [] 200 (by repeat' (first | exact hR | apply OKR.pI | apply OKR.pL | apply OKR.cpI | apply OKR.wI)) ?_)
              refine m_X_isRow1 (by repeat' (first | exact hR | apply OKR.pI | apply OKR.pL | apply OKR.cpI | apply OKR.wI)) ha (And.intro (by repeat' (first | exact hR | apply OKR.pI | apply OKR.pL | apply OKR.cpI | apply OKR.wI)) ?_)
              refine And.intro (fun c3 => ?_) (fun c3 => ?_)
              · first | exact absurd c3 (by decide) | exact absurd (by decide) c3 | (exfalso; grind)
              · try dsimp only at c3
                refine m_X_isRow1 (by repeat' (first | exact hR | apply OKR.pI | apply OKR.pL | apply OKR.cpI | apply OKR.wI)) hb (And.intro (by repeat' (first | exact hR | apply OKR.pI | apply OKR.pL | apply OKR.cpI | apply OKR.wI)) ?_)
                refine And.intro (fun c7 => ?_) (fun c7 => ?_)
                · first | exact absurd c7 (by decide) | exact absurd (by decide) c7 | (exfalso; grind)
                · try dsimp only at c7
                  refine And.intro (fun c11 => ?_) (fun c11 => ?_)
                  · try dsimp only at c11
                    refine And.intro ⟨(by first | decide | assumption | omega), (by first | decide | assumption | omega)⟩ ?_
                    refine And.intro ⟨(by first | exact vp_nI (k := a) (N := 6) ha (by decide) | exact vp_nI (k := b) (N := 6) hb (by decide)), (by first | exact ⟨rfl, by rw [ea]; exact ha⟩ | exact ⟨rfl, by rw [eb]; exact hb⟩)⟩ ?_
                    rw [show (nI a).toNatClampNeg = a from ea]
                    refine m_Ce_isMissing0 (by repeat' (first | exact hR | apply OKR.pI | apply OKR.pL | apply OKR.cpI | apply OKR.wI)) (n := na) (by omega) s1 (And.intro (by repeat' (first | exact hR | apply OKR.pI | apply OKR.pL | apply OKR.cpI | apply OKR.wI)) ?_)
                    refine And.intro (fun c21 => ?_) (fun c21 => ?_)
                    · try dsimp only at c21
                      refine And.intro ⟨(by first | decide | assumption | omega), (by first | decide | assumption | omega)⟩ ?_
                      refine And.intro ⟨(by first | exact vp_nI (k := a) (N := 6) ha (by decide) | exact vp_nI (k := b) (N := 6) hb (by decide)), (by first | exact ⟨rfl, by rw [ea]; exact ha⟩ | exact ⟨rfl, by rw [eb]; exact hb⟩)⟩ ?_
                      rw [show (nI b).toNatClampNeg = b from eb]
                      refine m_Ce_isMissing0 (by repeat' (first | exact hR | apply OKR.pI | apply OKR.pL | apply OKR.cpI | apply OKR.wI)) (n := nb) (by omega) u1 (And.intro (by repeat' (first | exact hR | apply OKR.pI | apply OKR.pL | apply OKR.cpI | apply OKR.wI)) ?_)
                      refine And.intro (fun c27 => ?_) (fun c27 => ?_)
                      · try dsimp only at c27
                        refine And.intro ⟨(by first | decide | assumption | omega), (by first | decide | assumption | omega)⟩ ?_
                        refine And.intro ⟨(by first | exact vp_nI (k := a) (N := 6) ha (by decide) | exact vp_nI (k := b) (N := 6) hb (by decide)), (by first | exact ⟨rfl, by rw [ea]; exact ha⟩ | exact ⟨rfl, by rw [eb]; exact hb⟩)⟩ ?_
                        rw [show (nI a).toNatClampNeg = a from ea]
                        refine m_Ce_hasSpan2 (by repeat' (first | exact hR | apply OKR.pI | apply OKR.pL | apply OKR.cpI | apply OKR.wI)) qi (And.intro (by repeat' (first | exact hR | apply OKR.pI | apply OKR.pL | apply OKR.cpI | apply OKR.wI)) ?_)
                        refine And.intro (fun c39 => ?_) (fun c39 => ?_)
                        · try dsimp only at c39
                          refine m_X_found2 (by repeat' (first | exact hR | apply OKR.pI | apply OKR.pL | apply OKR.cpI | apply OKR.wI))  (And.intro (by repeat' (first | exact hR | apply OKR.pI | apply OKR.pL | apply OKR.cpI | apply OKR.wI)) ?_)
                          refine And.intro trivial ?_
                          refine w_M_copy (Go.runR (callT_mono MT _) [62, 79] 200 (by repeat' (first | exact hR | apply OKR.pI | apply OKR.pL | apply OKR.cpI | apply OKR.wI)) ?_)
                          refine m_M_isRow1 (by repeat' (first | exact hR | apply OKR.pI | apply OKR.pL | apply OKR.cpI | apply OKR.wI)) ha (And.intro (by repeat' (first | exact hR | apply OKR.pI | apply OKR.pL | apply OKR.cpI | apply OKR.wI)) ?_)
                          refine And.intro (fun c2 => ?_) (fun c2 => ?_)
                          · first | exact absurd c2 (by decide) | exact absurd (by decide) c2 | (exfalso; grind)
                          · try dsimp only at c2
                            refine m_M_isRow1 (by repeat' (first | exact hR | apply OKR.pI | apply OKR.pL | apply OKR.cpI | apply OKR.wI)) hb (And.intro (by repeat' (first | exact hR | apply OKR.pI | apply OKR.pL | apply OKR.cpI | apply OKR.wI)) ?_)
                            refine And.intro (fun c5 => ?_) (fun c5 => ?_)
                            · first | exact absurd c5 (by decide) | exact absurd (by decide) c5 | (exfalso; grind)
                            · try dsimp only at c5
                              refine And.intro (fun c9 => ?_) (fun c9 => ?_)
                              · try dsimp only at c9
                                refine And.intro ⟨rfl, rfl, rfl⟩ ?_
                                refine And.intro (vp_nI (N := 6) ha (by decide)) ?_
                                refine And.intro (fun c18 => ?_) (fun c18 => ?_)
                                · exact absurd (show gI (foundM m 2) (1, 2, 0) (nI a).toNatClampNeg < 0 from c18) (by rw [ea, show gI (foundM m 2) (1, 2, 0) a = nI na from s2]; exact nI_pos (by omega))
                                · try dsimp only at c18
                                  refine And.intro ⟨rfl, rfl, rfl⟩ ?_
                                  refine And.intro (vp_nI (N := 6) hb (by decide)) ?_
                                  refine And.intro (fun c23 => ?_) (fun c23 => ?_)
                                  · try dsimp only at c23
                                    refine And.intro (fun c29 => ?_) (fun c29 => ?_)
                                    · try dsimp only at c29
                                      refine m_M_meet2 (by repeat' (first | exact hR | apply OKR.pI | apply OKR.pL | apply OKR.cpI | apply OKR.wI))  (And.intro (by repeat' (first | exact hR | apply OKR.pI | apply OKR.pL | apply OKR.cpI | apply OKR.wI)) ?_)
                                      refine And.intro trivial ?_
                                      exact h _ _ (R.meet (by omega) (by omega))
                                    · exact absurd qi c29
                                  · exact absurd (show 0 ≤ gI (foundM m 2) (1, 2, 0) (nI b).toNatClampNeg by rw [eb, show gI (foundM m 2) (1, 2, 0) b = nI nb from u2]; exact nI_pos' (by omega)) c23
                              · exact absurd (nI_pos' (by omega)) c9
                        · first | exact absurd c39 (by decide) | exact absurd (by decide) c39 | (exfalso; grind)
                      · first | exact absurd c27 (by decide) | exact absurd (by decide) c27 | (exfalso; grind)
                    · first | exact absurd c21 (by decide) | exact absurd (by decide) c21 | (exfalso; grind)
                  · exact absurd (nI_pos' (by omega)) c11
            · obtain ⟨x, hx, rfl⟩ := nI_of qi
              by_cases w1 : x + c ≤ na
              · by_cases qj : j < 0
                · refine w_X_copy (Go.runR (callT_mono MT _) [] 200 (by repeat' (first | exact hR | apply OKR.pI | apply OKR.pL | apply OKR.cpI | apply OKR.wI)) ?_)
                  refine m_X_isRow1 (by repeat' (first | exact hR | apply OKR.pI | apply OKR.pL | apply OKR.cpI | apply OKR.wI)) ha (And.intro (by repeat' (first | exact hR | apply OKR.pI | apply OKR.pL | apply OKR.cpI | apply OKR.wI)) ?_)
                  refine And.intro (fun c3 => ?_) (fun c3 => ?_)
                  · first | exact absurd c3 (by decide) | exact absurd (by decide) c3 | (exfalso; grind)
                  · try dsimp only at c3
                    refine m_X_isRow1 (by repeat' (first | exact hR | apply OKR.pI | apply OKR.pL | apply OKR.cpI | apply OKR.wI)) hb (And.intro (by repeat' (first | exact hR | apply OKR.pI | apply OKR.pL | apply OKR.cpI | apply OKR.wI)) ?_)
                    refine And.intro (fun c7 => ?_) (fun c7 => ?_)
                    · first | exact absurd c7 (by decide) | exact absurd (by decide) c7 | (exfalso; grind)
                    · try dsimp only at c7
                      refine And.intro (fun c11 => ?_) (fun c11 => ?_)
                      · try dsimp only at c11
                        refine And.intro ⟨(by first | decide | assumption | omega), (by first | decide | assumption | omega)⟩ ?_
                        refine And.intro ⟨(by first | exact vp_nI (k := a) (N := 6) ha (by decide) | exact vp_nI (k := b) (N := 6) hb (by decide)), (by first | exact ⟨rfl, by rw [ea]; exact ha⟩ | exact ⟨rfl, by rw [eb]; exact hb⟩)⟩ ?_
                        rw [show (nI a).toNatClampNeg = a from ea]
                        refine m_Ce_isMissing0 (by repeat' (first | exact hR | apply OKR.pI | apply OKR.pL | apply OKR.cpI | apply OKR.wI)) (n := na) (by omega) s1 (And.intro (by repeat' (first | exact hR | apply OKR.pI | apply OKR.pL | apply OKR.cpI | apply OKR.wI)) ?_)
                        refine And.intro (fun c21 => ?_) (fun c21 => ?_)
                        · try dsimp only at c21
                          refine And.intro ⟨(by first | decide | assumption | omega), (by first | decide | assumption | omega)⟩ ?_
                          refine And.intro ⟨(by first | exact vp_nI (k := a) (N := 6) ha (by decide) | exact vp_nI (k := b) (N := 6) hb (by decide)), (by first | exact ⟨rfl, by rw [ea]; exact ha⟩ | exact ⟨rfl, by rw [eb]; exact hb⟩)⟩ ?_
                          rw [show (nI b).toNatClampNeg = b from eb]
                          refine m_Ce_isMissing0 (by repeat' (first | exact hR | apply OKR.pI | apply OKR.pL | apply OKR.cpI | apply OKR.wI)) (n := nb) (by omega) u1 (And.intro (by repeat' (first | exact hR | apply OKR.pI | apply OKR.pL | apply OKR.cpI | apply OKR.wI)) ?_)
                          refine And.intro (fun c27 => ?_) (fun c27 => ?_)
                          · try dsimp only at c27
                            refine And.intro ⟨(by first | decide | assumption | omega), (by first | decide | assumption | omega)⟩ ?_
                            refine And.intro ⟨(by first | exact vp_nI (k := a) (N := 6) ha (by decide) | exact vp_nI (k := b) (N := 6) hb (by decide)), (by first | exact ⟨rfl, by rw [ea]; exact ha⟩ | exact ⟨rfl, by rw [eb]; exact hb⟩)⟩ ?_
                            rw [show (nI a).toNatClampNeg = a from ea]
                            refine m_Ce_hasSpan1 (by repeat' (first | exact hR | apply OKR.pI | apply OKR.pL | apply OKR.cpI | apply OKR.wI)) hna s1 w1 (And.intro (by repeat' (first | exact hR | apply OKR.pI | apply OKR.pL | apply OKR.cpI | apply OKR.wI)) ?_)
                            refine And.intro (fun c39 => ?_) (fun c39 => ?_)
                            · first | exact absurd c39 (by decide) | exact absurd (by decide) c39 | (exfalso; grind)
                            · try dsimp only at c39
                              refine And.intro ⟨(by first | decide | assumption | omega), (by first | decide | assumption | omega)⟩ ?_
                              refine And.intro ⟨(by first | exact vp_nI (k := a) (N := 6) ha (by decide) | exact vp_nI (k := b) (N := 6) hb (by decide)), (by first | exact ⟨rfl, by rw [ea]; exact ha⟩ | exact ⟨rfl, by rw [eb]; exact hb⟩)⟩ ?_
                              rw [show (nI b).toNatClampNeg = b from eb]
                              refine m_Ce_hasSpan2 (by repeat' (first | exact hR | apply OKR.pI | apply OKR.pL | apply OKR.cpI | apply OKR.wI)) qj (And.intro (by repeat' (first | exact hR | apply OKR.pI | apply OKR.pL | apply OKR.cpI | apply OKR.wI)) ?_)
                              refine And.intro (fun c47 => ?_) (fun c47 => ?_)
                              · try dsimp only at c47
                                refine m_X_found2 (by repeat' (first | exact hR | apply OKR.pI | apply OKR.pL | apply OKR.cpI | apply OKR.wI))  (And.intro (by repeat' (first | exact hR | apply OKR.pI | apply OKR.pL | apply OKR.cpI | apply OKR.wI)) ?_)
                                refine And.intro trivial ?_
                                refine w_M_copy (Go.runR (callT_mono MT _) [62, 79] 200 (by repeat' (first | exact hR | apply OKR.pI | apply OKR.pL | apply OKR.cpI | apply OKR.wI)) ?_)
                                refine m_M_isRow1 (by repeat' (first | exact hR | apply OKR.pI | apply OKR.pL | apply OKR.cpI | apply OKR.wI)) ha (And.intro (by repeat' (first | exact hR | apply OKR.pI | apply OKR.pL | apply OKR.cpI | apply OKR.wI)) ?_)
                                refine And.intro (fun c2 => ?_) (fun c2 => ?_)
                                · first | exact absurd c2 (by decide) | exact absurd (by decide) c2 | (exfalso; grind)
                                · try dsimp only at c2
                                  refine m_M_isRow1 (by repeat' (first | exact hR | apply OKR.pI | apply OKR.pL | apply OKR.cpI | apply OKR.wI)) hb (And.intro (by repeat' (first | exact hR | apply OKR.pI | apply OKR.pL | apply OKR.cpI | apply OKR.wI)) ?_)
                                  refine And.intro (fun c5 => ?_) (fun c5 => ?_)
                                  · first | exact absurd c5 (by decide) | exact absurd (by decide) c5 | (exfalso; grind)
                                  · try dsimp only at c5
                                    refine And.intro (fun c9 => ?_) (fun c9 => ?_)
                                    · try dsimp only at c9
                                      refine And.intro ⟨rfl, rfl, rfl⟩ ?_
                                      refine And.intro (vp_nI (N := 6) ha (by decide)) ?_
                                      refine And.intro (fun c18 => ?_) (fun c18 => ?_)
                                      · exact absurd (show gI (foundM m 2) (1, 2, 0) (nI a).toNatClampNeg < 0 from c18) (by rw [ea, show gI (foundM m 2) (1, 2, 0) a = nI na from s2]; exact nI_pos (by omega))
                                      · try dsimp only at c18
                                        refine And.intro ⟨rfl, rfl, rfl⟩ ?_
                                        refine And.intro (vp_nI (N := 6) hb (by decide)) ?_
                                        refine And.intro (fun c23 => ?_) (fun c23 => ?_)
                                        · try dsimp only at c23
                                          refine And.intro (fun c29 => ?_) (fun c29 => ?_)
                                          · exact absurd c29 (nI_pos (by omega))
                                          · try dsimp only at c29
                                            refine And.intro (fun c31 => ?_) (fun c31 => ?_)
                                            · try dsimp only at c31
                                              refine m_M_meet2 (by repeat' (first | exact hR | apply OKR.pI | apply OKR.pL | apply OKR.cpI | apply OKR.wI))  (And.intro (by repeat' (first | exact hR | apply OKR.pI | apply OKR.pL | apply OKR.cpI | apply OKR.wI)) ?_)
                                              refine And.intro trivial ?_
                                              exact h _ _ (R.meet (by omega) (by omega))
                                            · exact absurd qj c31
                                        · exact absurd (show 0 ≤ gI (foundM m 2) (1, 2, 0) (nI b).toNatClampNeg by rw [eb, show gI (foundM m 2) (1, 2, 0) b = nI nb from u2]; exact nI_pos' (by omega)) c23
                                    · exact absurd (nI_pos' (by omega)) c9
                              · first | exact absurd c47 (by decide) | exact absurd (by decide) c47 | (exfalso; grind)
                          · first | exact absurd c27 (by decide) | exact absurd (by decide) c27 | (exfalso; grind)
                        · first | exact absurd c21 (by decide) | exact absurd (by decide) c21 | (exfalso; grind)
                      · exact absurd (nI_pos' (by omega)) c11
                · obtain ⟨y, hy, rfl⟩ := nI_of qj
                  by_cases w2 : y + c ≤ nb
                  · refine w_X_copy (Go.runR (callT_mono MT _) [] 200 (by repeat' (first | exact hR | apply OKR.pI | apply OKR.pL | apply OKR.cpI | apply OKR.wI)) ?_)
                    refine m_X_isRow1 (by repeat' (first | exact hR | apply OKR.pI | apply OKR.pL | apply OKR.cpI | apply OKR.wI)) ha (And.intro (by repeat' (first | exact hR | apply OKR.pI | apply OKR.pL | apply OKR.cpI | apply OKR.wI)) ?_)
                    refine And.intro (fun c3 => ?_) (fun c3 => ?_)
                    · first | exact absurd c3 (by decide) | exact absurd (by decide) c3 | (exfalso; grind)
                    · try dsimp only at c3
                      refine m_X_isRow1 (by repeat' (first | exact hR | apply OKR.pI | apply OKR.pL | apply OKR.cpI | apply OKR.wI)) hb (And.intro (by repeat' (first | exact hR | apply OKR.pI | apply OKR.pL | apply OKR.cpI | apply OKR.wI)) ?_)
                      refine And.intro (fun c7 => ?_) (fun c7 => ?_)
                      · first | exact absurd c7 (by decide) | exact absurd (by decide) c7 | (exfalso; grind)
                      · try dsimp only at c7
                        refine And.intro (fun c11 => ?_) (fun c11 => ?_)
                        · try dsimp only at c11
                          refine And.intro ⟨(by first | decide | assumption | omega), (by first | decide | assumption | omega)⟩ ?_
                          refine And.intro ⟨(by first | exact vp_nI (k := a) (N := 6) ha (by decide) | exact vp_nI (k := b) (N := 6) hb (by decide)), (by first | exact ⟨rfl, by rw [ea]; exact ha⟩ | exact ⟨rfl, by rw [eb]; exact hb⟩)⟩ ?_
                          rw [show (nI a).toNatClampNeg = a from ea]
                          refine m_Ce_isMissing0 (by repeat' (first | exact hR | apply OKR.pI | apply OKR.pL | apply OKR.cpI | apply OKR.wI)) (n := na) (by omega) s1 (And.intro (by repeat' (first | exact hR | apply OKR.pI | apply OKR.pL | apply OKR.cpI | apply OKR.wI)) ?_)
                          refine And.intro (fun c21 => ?_) (fun c21 => ?_)
                          · try dsimp only at c21
                            refine And.intro ⟨(by first | decide | assumption | omega), (by first | decide | assumption | omega)⟩ ?_
                            refine And.intro ⟨(by first | exact vp_nI (k := a) (N := 6) ha (by decide) | exact vp_nI (k := b) (N := 6) hb (by decide)), (by first | exact ⟨rfl, by rw [ea]; exact ha⟩ | exact ⟨rfl, by rw [eb]; exact hb⟩)⟩ ?_
                            rw [show (nI b).toNatClampNeg = b from eb]
                            refine m_Ce_isMissing0 (by repeat' (first | exact hR | apply OKR.pI | apply OKR.pL | apply OKR.cpI | apply OKR.wI)) (n := nb) (by omega) u1 (And.intro (by repeat' (first | exact hR | apply OKR.pI | apply OKR.pL | apply OKR.cpI | apply OKR.wI)) ?_)
                            refine And.intro (fun c27 => ?_) (fun c27 => ?_)
                            · try dsimp only at c27
                              refine And.intro ⟨(by first | decide | assumption | omega), (by first | decide | assumption | omega)⟩ ?_
                              refine And.intro ⟨(by first | exact vp_nI (k := a) (N := 6) ha (by decide) | exact vp_nI (k := b) (N := 6) hb (by decide)), (by first | exact ⟨rfl, by rw [ea]; exact ha⟩ | exact ⟨rfl, by rw [eb]; exact hb⟩)⟩ ?_
                              rw [show (nI a).toNatClampNeg = a from ea]
                              refine m_Ce_hasSpan1 (by repeat' (first | exact hR | apply OKR.pI | apply OKR.pL | apply OKR.cpI | apply OKR.wI)) hna s1 w1 (And.intro (by repeat' (first | exact hR | apply OKR.pI | apply OKR.pL | apply OKR.cpI | apply OKR.wI)) ?_)
                              refine And.intro (fun c39 => ?_) (fun c39 => ?_)
                              · first | exact absurd c39 (by decide) | exact absurd (by decide) c39 | (exfalso; grind)
                              · try dsimp only at c39
                                refine And.intro ⟨(by first | decide | assumption | omega), (by first | decide | assumption | omega)⟩ ?_
                                refine And.intro ⟨(by first | exact vp_nI (k := a) (N := 6) ha (by decide) | exact vp_nI (k := b) (N := 6) hb (by decide)), (by first | exact ⟨rfl, by rw [ea]; exact ha⟩ | exact ⟨rfl, by rw [eb]; exact hb⟩)⟩ ?_
                                rw [show (nI b).toNatClampNeg = b from eb]
                                refine m_Ce_hasSpan1 (by repeat' (first | exact hR | apply OKR.pI | apply OKR.pL | apply OKR.cpI | apply OKR.wI)) hnb u1 w2 (And.intro (by repeat' (first | exact hR | apply OKR.pI | apply OKR.pL | apply OKR.cpI | apply OKR.wI)) ?_)
                                refine And.intro (fun c47 => ?_) (fun c47 => ?_)
                                · first | exact absurd c47 (by decide) | exact absurd (by decide) c47 | (exfalso; grind)
                                · try dsimp only at c47
                                  refine And.intro ⟨(by first | decide | assumption | omega), (by first | decide | assumption | omega)⟩ ?_
                                  refine And.intro ⟨(by first | exact vp_nI (k := a) (N := 6) ha (by decide) | exact vp_nI (k := b) (N := 6) hb (by decide)), (by first | exact ⟨rfl, by rw [ea]; exact ha⟩ | exact ⟨rfl, by rw [eb]; exact hb⟩)⟩ ?_
                                  refine And.intro ⟨(by first | decide | assumption | omega), (by first | decide | assumption | omega)⟩ ?_
                                  refine And.intro ⟨(by first | exact vp_nI (k := a) (N := 6) ha (by decide) | exact vp_nI (k := b) (N := 6) hb (by decide)), (by first | exact ⟨rfl, by rw [ea]; exact ha⟩ | exact ⟨rfl, by rw [eb]; exact hb⟩)⟩ ?_
                                  rw [show (nI a).toNatClampNeg = a from ea]
                                  rw [show (nI b).toNatClampNeg = b from eb]
                                  refine m_Ce_take1 (by repeat' (first | exact hR | apply OKR.pI | apply OKR.pL | apply OKR.cpI | apply OKR.wI)) ha hb hna hnb s1 u1 w1 w2 (And.intro (by repeat' (first | exact hR | apply OKR.pI | apply OKR.pL | apply OKR.cpI | apply OKR.wI)) ?_)
                                  refine And.intro trivial ?_
                                  refine w_M_copy (Go.runR (callT_mono MT _) [62, 79] 200 (by repeat' (first | exact hR | apply OKR.pI | apply OKR.pL | apply OKR.cpI | apply OKR.wI)) ?_)
                                  refine m_M_isRow1 (by repeat' (first | exact hR | apply OKR.pI | apply OKR.pL | apply OKR.cpI | apply OKR.wI)) ha (And.intro (by repeat' (first | exact hR | apply OKR.pI | apply OKR.pL | apply OKR.cpI | apply OKR.wI)) ?_)
                                  refine And.intro (fun c2 => ?_) (fun c2 => ?_)
                                  · first | exact absurd c2 (by decide) | exact absurd (by decide) c2 | (exfalso; grind)
                                  · try dsimp only at c2
                                    refine m_M_isRow1 (by repeat' (first | exact hR | apply OKR.pI | apply OKR.pL | apply OKR.cpI | apply OKR.wI)) hb (And.intro (by repeat' (first | exact hR | apply OKR.pI | apply OKR.pL | apply OKR.cpI | apply OKR.wI)) ?_)
                                    refine And.intro (fun c5 => ?_) (fun c5 => ?_)
                                    · first | exact absurd c5 (by decide) | exact absurd (by decide) c5 | (exfalso; grind)
                                    · try dsimp only at c5
                                      refine And.intro (fun c9 => ?_) (fun c9 => ?_)
                                      · try dsimp only at c9
                                        refine And.intro ⟨rfl, rfl, rfl⟩ ?_
                                        refine And.intro (vp_nI (N := 6) ha (by decide)) ?_
                                        refine And.intro (fun c18 => ?_) (fun c18 => ?_)
                                        · exact absurd (show gI (cpI m (0, 2, a) (0, 2, b) x y c) (1, 2, 0) (nI a).toNatClampNeg < 0 from c18) (by rw [ea, show gI (cpI m (0, 2, a) (0, 2, b) x y c) (1, 2, 0) a = nI na from s2]; exact nI_pos (by omega))
                                        · try dsimp only at c18
                                          refine And.intro ⟨rfl, rfl, rfl⟩ ?_
                                          refine And.intro (vp_nI (N := 6) hb (by decide)) ?_
                                          refine And.intro (fun c23 => ?_) (fun c23 => ?_)
                                          · try dsimp only at c23
                                            refine And.intro (fun c29 => ?_) (fun c29 => ?_)
                                            · exact absurd c29 (nI_pos (by omega))
                                            · try dsimp only at c29
                                              refine And.intro (fun c31 => ?_) (fun c31 => ?_)
                                              · exact absurd c31 (nI_pos (by omega))
                                              · try dsimp only at c31
                                                refine And.intro ⟨rfl, rfl, rfl⟩ ?_
                                                refine And.intro (vp_nI (N := 6) ha (by decide)) ?_
                                                refine And.intro (fun c43 => ?_) (fun c43 => ?_)
                                                · exact absurd (show 0 < lg_cmp ((nI x).toInt64 + (nI c).toInt64) (gI (cpI m (0, 2, a) (0, 2, b) x y c) (1, 2, 0) (nI a).toNatClampNeg).toInt64 from c43) (by
                                                  rw [lg_cmp_gt, ea, show gI (cpI m (0, 2, a) (0, 2, b) x y c) (1, 2, 0) a = nI na from s2]
                                                  exact Int64.not_lt.mpr ((spanL hna hx hc).mpr w1))
                                                · try dsimp only at c43
                                                  refine And.intro ⟨rfl, rfl, rfl⟩ ?_
                                                  refine And.intro (vp_nI (N := 6) hb (by decide)) ?_
                                                  refine And.intro (fun c55 => ?_) (fun c55 => ?_)
                                                  · try dsimp only at c55
                                                    refine go_eq (ls' := [vo 1 0 0, vi (nI a), vi (nI x), vi (nI b), vi (nI y), vi (nI c), vi (nI 0)]) rfl rfl (l_M_copy62 ha hb (by omega) (by omega) (fun m2 B => h _ _ (R.copy ha hb hna hnb s3 w1 w2 B)) 0 _ ⟨Nx.refl R.1.cpI, fun i hi => absurd hi (by omega)⟩ (by omega))
                                                  · exact absurd (show lg_cmp ((nI y).toInt64 + (nI c).toInt64) (gI (cpI m (0, 2, a) (0, 2, b) x y c) (1, 2, 0) (nI b).toNatClampNeg).toInt64 ≤ 0 by
                                                    rw [lg_cmp_le, eb, show gI (cpI m (0, 2, a) (0, 2, b) x y c) (1, 2, 0) b = nI nb from u2]
                                                    exact (spanL hnb hy hc).mpr w2) c55
                                          · exact absurd (show 0 ≤ gI (cpI m (0, 2, a) (0, 2, b) x y c) (1, 2, 0) (nI b).toNatClampNeg by rw [eb, show gI (cpI m (0, 2, a) (0, 2, b) x y c) (1, 2, 0) b = nI nb from u2]; exact nI_pos' (by omega)) c23
                                      · exact absurd (nI_pos' (by omega)) c9
                            · first | exact absurd c27 (by decide) | exact absurd (by decide) c27 | (exfalso; grind)
                          · first | exact absurd c21 (by decide) | exact absurd (by decide) c21 | (exfalso; grind)
                        · exact absurd (nI_pos' (by omega)) c11
                  · refine w_X_copy (Go.runR (callT_mono MT _) [] 200 (by repeat' (first | exact hR | apply OKR.pI | apply OKR.pL | apply OKR.cpI | apply OKR.wI)) ?_)
                    refine m_X_isRow1 (by repeat' (first | exact hR | apply OKR.pI | apply OKR.pL | apply OKR.cpI | apply OKR.wI)) ha (And.intro (by repeat' (first | exact hR | apply OKR.pI | apply OKR.pL | apply OKR.cpI | apply OKR.wI)) ?_)
                    refine And.intro (fun c3 => ?_) (fun c3 => ?_)
                    · first | exact absurd c3 (by decide) | exact absurd (by decide) c3 | (exfalso; grind)
                    · try dsimp only at c3
                      refine m_X_isRow1 (by repeat' (first | exact hR | apply OKR.pI | apply OKR.pL | apply OKR.cpI | apply OKR.wI)) hb (And.intro (by repeat' (first | exact hR | apply OKR.pI | apply OKR.pL | apply OKR.cpI | apply OKR.wI)) ?_)
                      refine And.intro (fun c7 => ?_) (fun c7 => ?_)
                      · first | exact absurd c7 (by decide) | exact absurd (by decide) c7 | (exfalso; grind)
                      · try dsimp only at c7
                        refine And.intro (fun c11 => ?_) (fun c11 => ?_)
                        · try dsimp only at c11
                          refine And.intro ⟨(by first | decide | assumption | omega), (by first | decide | assumption | omega)⟩ ?_
                          refine And.intro ⟨(by first | exact vp_nI (k := a) (N := 6) ha (by decide) | exact vp_nI (k := b) (N := 6) hb (by decide)), (by first | exact ⟨rfl, by rw [ea]; exact ha⟩ | exact ⟨rfl, by rw [eb]; exact hb⟩)⟩ ?_
                          rw [show (nI a).toNatClampNeg = a from ea]
                          refine m_Ce_isMissing0 (by repeat' (first | exact hR | apply OKR.pI | apply OKR.pL | apply OKR.cpI | apply OKR.wI)) (n := na) (by omega) s1 (And.intro (by repeat' (first | exact hR | apply OKR.pI | apply OKR.pL | apply OKR.cpI | apply OKR.wI)) ?_)
                          refine And.intro (fun c21 => ?_) (fun c21 => ?_)
                          · try dsimp only at c21
                            refine And.intro ⟨(by first | decide | assumption | omega), (by first | decide | assumption | omega)⟩ ?_
                            refine And.intro ⟨(by first | exact vp_nI (k := a) (N := 6) ha (by decide) | exact vp_nI (k := b) (N := 6) hb (by decide)), (by first | exact ⟨rfl, by rw [ea]; exact ha⟩ | exact ⟨rfl, by rw [eb]; exact hb⟩)⟩ ?_
                            rw [show (nI b).toNatClampNeg = b from eb]
                            refine m_Ce_isMissing0 (by repeat' (first | exact hR | apply OKR.pI | apply OKR.pL | apply OKR.cpI | apply OKR.wI)) (n := nb) (by omega) u1 (And.intro (by repeat' (first | exact hR | apply OKR.pI | apply OKR.pL | apply OKR.cpI | apply OKR.wI)) ?_)
                            refine And.intro (fun c27 => ?_) (fun c27 => ?_)
                            · try dsimp only at c27
                              refine And.intro ⟨(by first | decide | assumption | omega), (by first | decide | assumption | omega)⟩ ?_
                              refine And.intro ⟨(by first | exact vp_nI (k := a) (N := 6) ha (by decide) | exact vp_nI (k := b) (N := 6) hb (by decide)), (by first | exact ⟨rfl, by rw [ea]; exact ha⟩ | exact ⟨rfl, by rw [eb]; exact hb⟩)⟩ ?_
                              rw [show (nI a).toNatClampNeg = a from ea]
                              refine m_Ce_hasSpan1 (by repeat' (first | exact hR | apply OKR.pI | apply OKR.pL | apply OKR.cpI | apply OKR.wI)) hna s1 w1 (And.intro (by repeat' (first | exact hR | apply OKR.pI | apply OKR.pL | apply OKR.cpI | apply OKR.wI)) ?_)
                              refine And.intro (fun c39 => ?_) (fun c39 => ?_)
                              · first | exact absurd c39 (by decide) | exact absurd (by decide) c39 | (exfalso; grind)
                              · try dsimp only at c39
                                refine And.intro ⟨(by first | decide | assumption | omega), (by first | decide | assumption | omega)⟩ ?_
                                refine And.intro ⟨(by first | exact vp_nI (k := a) (N := 6) ha (by decide) | exact vp_nI (k := b) (N := 6) hb (by decide)), (by first | exact ⟨rfl, by rw [ea]; exact ha⟩ | exact ⟨rfl, by rw [eb]; exact hb⟩)⟩ ?_
                                rw [show (nI b).toNatClampNeg = b from eb]
                                refine m_Ce_hasSpan0 (by repeat' (first | exact hR | apply OKR.pI | apply OKR.pL | apply OKR.cpI | apply OKR.wI)) hnb hy hc u1 w2 (And.intro (by repeat' (first | exact hR | apply OKR.pI | apply OKR.pL | apply OKR.cpI | apply OKR.wI)) ?_)
                                refine And.intro (fun c47 => ?_) (fun c47 => ?_)
                                · try dsimp only at c47
                                  refine m_X_found2 (by repeat' (first | exact hR | apply OKR.pI | apply OKR.pL | apply OKR.cpI | apply OKR.wI))  (And.intro (by repeat' (first | exact hR | apply OKR.pI | apply OKR.pL | apply OKR.cpI | apply OKR.wI)) ?_)
                                  refine And.intro trivial ?_
                                  refine w_M_copy (Go.runR (callT_mono MT _) [62, 79] 200 (by repeat' (first | exact hR | apply OKR.pI | apply OKR.pL | apply OKR.cpI | apply OKR.wI)) ?_)
                                  refine m_M_isRow1 (by repeat' (first | exact hR | apply OKR.pI | apply OKR.pL | apply OKR.cpI | apply OKR.wI)) ha (And.intro (by repeat' (first | exact hR | apply OKR.pI | apply OKR.pL | apply OKR.cpI | apply OKR.wI)) ?_)
                                  refine And.intro (fun c2 => ?_) (fun c2 => ?_)
                                  · first | exact absurd c2 (by decide) | exact absurd (by decide) c2 | (exfalso; grind)
                                  · try dsimp only at c2
                                    refine m_M_isRow1 (by repeat' (first | exact hR | apply OKR.pI | apply OKR.pL | apply OKR.cpI | apply OKR.wI)) hb (And.intro (by repeat' (first | exact hR | apply OKR.pI | apply OKR.pL | apply OKR.cpI | apply OKR.wI)) ?_)
                                    refine And.intro (fun c5 => ?_) (fun c5 => ?_)
                                    · first | exact absurd c5 (by decide) | exact absurd (by decide) c5 | (exfalso; grind)
                                    · try dsimp only at c5
                                      refine And.intro (fun c9 => ?_) (fun c9 => ?_)
                                      · try dsimp only at c9
                                        refine And.intro ⟨rfl, rfl, rfl⟩ ?_
                                        refine And.intro (vp_nI (N := 6) ha (by decide)) ?_
                                        refine And.intro (fun c18 => ?_) (fun c18 => ?_)
                                        · exact absurd (show gI (foundM m 2) (1, 2, 0) (nI a).toNatClampNeg < 0 from c18) (by rw [ea, show gI (foundM m 2) (1, 2, 0) a = nI na from s2]; exact nI_pos (by omega))
                                        · try dsimp only at c18
                                          refine And.intro ⟨rfl, rfl, rfl⟩ ?_
                                          refine And.intro (vp_nI (N := 6) hb (by decide)) ?_
                                          refine And.intro (fun c23 => ?_) (fun c23 => ?_)
                                          · try dsimp only at c23
                                            refine And.intro (fun c29 => ?_) (fun c29 => ?_)
                                            · exact absurd c29 (nI_pos (by omega))
                                            · try dsimp only at c29
                                              refine And.intro (fun c31 => ?_) (fun c31 => ?_)
                                              · exact absurd c31 (nI_pos (by omega))
                                              · try dsimp only at c31
                                                refine And.intro ⟨rfl, rfl, rfl⟩ ?_
                                                refine And.intro (vp_nI (N := 6) ha (by decide)) ?_
                                                refine And.intro (fun c43 => ?_) (fun c43 => ?_)
                                                · exact absurd (show 0 < lg_cmp ((nI x).toInt64 + (nI c).toInt64) (gI (foundM m 2) (1, 2, 0) (nI a).toNatClampNeg).toInt64 from c43) (by
                                                  rw [lg_cmp_gt, ea, show gI (foundM m 2) (1, 2, 0) a = nI na from s2]
                                                  exact Int64.not_lt.mpr ((spanL hna hx hc).mpr w1))
                                                · try dsimp only at c43
                                                  refine And.intro ⟨rfl, rfl, rfl⟩ ?_
                                                  refine And.intro (vp_nI (N := 6) hb (by decide)) ?_
                                                  refine And.intro (fun c55 => ?_) (fun c55 => ?_)
                                                  · exact absurd (show lg_cmp ((nI y).toInt64 + (nI c).toInt64) (gI (foundM m 2) (1, 2, 0) (nI b).toNatClampNeg).toInt64 ≤ 0 from c55) (by
                                                    rw [lg_cmp_le, eb, show gI (foundM m 2) (1, 2, 0) b = nI nb from u2]
                                                    exact fun z => w2 ((spanL hnb hy hc).mp z))
                                                  · try dsimp only at c55
                                                    refine m_M_meet2 (by repeat' (first | exact hR | apply OKR.pI | apply OKR.pL | apply OKR.cpI | apply OKR.wI))  (And.intro (by repeat' (first | exact hR | apply OKR.pI | apply OKR.pL | apply OKR.cpI | apply OKR.wI)) ?_)
                                                    refine And.intro trivial ?_
                                                    exact h _ _ (R.meet (by omega) (by omega))
                                          · exact absurd (show 0 ≤ gI (foundM m 2) (1, 2, 0) (nI b).toNatClampNeg by rw [eb, show gI (foundM m 2) (1, 2, 0) b = nI nb from u2]; exact nI_pos' (by omega)) c23
                                      · exact absurd (nI_pos' (by omega)) c9
                                · first | exact absurd c47 (by decide) | exact absurd (by decide) c47 | (exfalso; grind)
                            · first | exact absurd c27 (by decide) | exact absurd (by decide) c27 | (exfalso; grind)
                          · first | exact absurd c21 (by decide) | exact absurd (by decide) c21 | (exfalso; grind)
                        · exact absurd (nI_pos' (by omega)) c11
              · by_cases qj : j < 0
                · refine w_X_copy (Go.runR (callT_mono MT _) [] 200 (by repeat' (first | exact hR | apply OKR.pI | apply OKR.pL | apply OKR.cpI | apply OKR.wI)) ?_)
                  refine m_X_isRow1 (by repeat' (first | exact hR | apply OKR.pI | apply OKR.pL | apply OKR.cpI | apply OKR.wI)) ha (And.intro (by repeat' (first | exact hR | apply OKR.pI | apply OKR.pL | apply OKR.cpI | apply OKR.wI)) ?_)
                  refine And.intro (fun c3 => ?_) (fun c3 => ?_)
                  · first | exact absurd c3 (by decide) | exact absurd (by decide) c3 | (exfalso; grind)
                  · try dsimp only at c3
                    refine m_X_isRow1 (by repeat' (first | exact hR | apply OKR.pI | apply OKR.pL | apply OKR.cpI | apply OKR.wI)) hb (And.intro (by repeat' (first | exact hR | apply OKR.pI | apply OKR.pL | apply OKR.cpI | apply OKR.wI)) ?_)
                    refine And.intro (fun c7 => ?_) (fun c7 => ?_)
                    · first | exact absurd c7 (by decide) | exact absurd (by decide) c7 | (exfalso; grind)
                    · try dsimp only at c7
                      refine And.intro (fun c11 => ?_) (fun c11 => ?_)
                      · try dsimp only at c11
                        refine And.intro ⟨(by first | decide | assumption | omega), (by first | decide | assumption | omega)⟩ ?_
                        refine And.intro ⟨(by first | exact vp_nI (k := a) (N := 6) ha (by decide) | exact vp_nI (k := b) (N := 6) hb (by decide)), (by first | exact ⟨rfl, by rw [ea]; exact ha⟩ | exact ⟨rfl, by rw [eb]; exact hb⟩)⟩ ?_
                        rw [show (nI a).toNatClampNeg = a from ea]
                        refine m_Ce_isMissing0 (by repeat' (first | exact hR | apply OKR.pI | apply OKR.pL | apply OKR.cpI | apply OKR.wI)) (n := na) (by omega) s1 (And.intro (by repeat' (first | exact hR | apply OKR.pI | apply OKR.pL | apply OKR.cpI | apply OKR.wI)) ?_)
                        refine And.intro (fun c21 => ?_) (fun c21 => ?_)
                        · try dsimp only at c21
                          refine And.intro ⟨(by first | decide | assumption | omega), (by first | decide | assumption | omega)⟩ ?_
                          refine And.intro ⟨(by first | exact vp_nI (k := a) (N := 6) ha (by decide) | exact vp_nI (k := b) (N := 6) hb (by decide)), (by first | exact ⟨rfl, by rw [ea]; exact ha⟩ | exact ⟨rfl, by rw [eb]; exact hb⟩)⟩ ?_
                          rw [show (nI b).toNatClampNeg = b from eb]
                          refine m_Ce_isMissing0 (by repeat' (first | exact hR | apply OKR.pI | apply OKR.pL | apply OKR.cpI | apply OKR.wI)) (n := nb) (by omega) u1 (And.intro (by repeat' (first | exact hR | apply OKR.pI | apply OKR.pL | apply OKR.cpI | apply OKR.wI)) ?_)
                          refine And.intro (fun c27 => ?_) (fun c27 => ?_)
                          · try dsimp only at c27
                            refine And.intro ⟨(by first | decide | assumption | omega), (by first | decide | assumption | omega)⟩ ?_
                            refine And.intro ⟨(by first | exact vp_nI (k := a) (N := 6) ha (by decide) | exact vp_nI (k := b) (N := 6) hb (by decide)), (by first | exact ⟨rfl, by rw [ea]; exact ha⟩ | exact ⟨rfl, by rw [eb]; exact hb⟩)⟩ ?_
                            rw [show (nI a).toNatClampNeg = a from ea]
                            refine m_Ce_hasSpan0 (by repeat' (first | exact hR | apply OKR.pI | apply OKR.pL | apply OKR.cpI | apply OKR.wI)) hna hx hc s1 w1 (And.intro (by repeat' (first | exact hR | apply OKR.pI | apply OKR.pL | apply OKR.cpI | apply OKR.wI)) ?_)
                            refine And.intro (fun c39 => ?_) (fun c39 => ?_)
                            · try dsimp only at c39
                              refine m_X_found2 (by repeat' (first | exact hR | apply OKR.pI | apply OKR.pL | apply OKR.cpI | apply OKR.wI))  (And.intro (by repeat' (first | exact hR | apply OKR.pI | apply OKR.pL | apply OKR.cpI | apply OKR.wI)) ?_)
                              refine And.intro trivial ?_
                              refine w_M_copy (Go.runR (callT_mono MT _) [62, 79] 200 (by repeat' (first | exact hR | apply OKR.pI | apply OKR.pL | apply OKR.cpI | apply OKR.wI)) ?_)
                              refine m_M_isRow1 (by repeat' (first | exact hR | apply OKR.pI | apply OKR.pL | apply OKR.cpI | apply OKR.wI)) ha (And.intro (by repeat' (first | exact hR | apply OKR.pI | apply OKR.pL | apply OKR.cpI | apply OKR.wI)) ?_)
                              refine And.intro (fun c2 => ?_) (fun c2 => ?_)
                              · first | exact absurd c2 (by decide) | exact absurd (by decide) c2 | (exfalso; grind)
                              · try dsimp only at c2
                                refine m_M_isRow1 (by repeat' (first | exact hR | apply OKR.pI | apply OKR.pL | apply OKR.cpI | apply OKR.wI)) hb (And.intro (by repeat' (first | exact hR | apply OKR.pI | apply OKR.pL | apply OKR.cpI | apply OKR.wI)) ?_)
                                refine And.intro (fun c5 => ?_) (fun c5 => ?_)
                                · first | exact absurd c5 (by decide) | exact absurd (by decide) c5 | (exfalso; grind)
                                · try dsimp only at c5
                                  refine And.intro (fun c9 => ?_) (fun c9 => ?_)
                                  · try dsimp only at c9
                                    refine And.intro ⟨rfl, rfl, rfl⟩ ?_
                                    refine And.intro (vp_nI (N := 6) ha (by decide)) ?_
                                    refine And.intro (fun c18 => ?_) (fun c18 => ?_)
                                    · exact absurd (show gI (foundM m 2) (1, 2, 0) (nI a).toNatClampNeg < 0 from c18) (by rw [ea, show gI (foundM m 2) (1, 2, 0) a = nI na from s2]; exact nI_pos (by omega))
                                    · try dsimp only at c18
                                      refine And.intro ⟨rfl, rfl, rfl⟩ ?_
                                      refine And.intro (vp_nI (N := 6) hb (by decide)) ?_
                                      refine And.intro (fun c23 => ?_) (fun c23 => ?_)
                                      · try dsimp only at c23
                                        refine And.intro (fun c29 => ?_) (fun c29 => ?_)
                                        · exact absurd c29 (nI_pos (by omega))
                                        · try dsimp only at c29
                                          refine And.intro (fun c31 => ?_) (fun c31 => ?_)
                                          · try dsimp only at c31
                                            refine m_M_meet2 (by repeat' (first | exact hR | apply OKR.pI | apply OKR.pL | apply OKR.cpI | apply OKR.wI))  (And.intro (by repeat' (first | exact hR | apply OKR.pI | apply OKR.pL | apply OKR.cpI | apply OKR.wI)) ?_)
                                            refine And.intro trivial ?_
                                            exact h _ _ (R.meet (by omega) (by omega))
                                          · exact absurd qj c31
                                      · exact absurd (show 0 ≤ gI (foundM m 2) (1, 2, 0) (nI b).toNatClampNeg by rw [eb, show gI (foundM m 2) (1, 2, 0) b = nI nb from u2]; exact nI_pos' (by omega)) c23
                                  · exact absurd (nI_pos' (by omega)) c9
                            · first | exact absurd c39 (by decide) | exact absurd (by decide) c39 | (exfalso; grind)
                          · first | exact absurd c27 (by decide) | exact absurd (by decide) c27 | (exfalso; grind)
                        · first | exact absurd c21 (by decide) | exact absurd (by decide) c21 | (exfalso; grind)
                      · exact absurd (nI_pos' (by omega)) c11
                · refine w_X_copy (Go.runR (callT_mono MT _) [] 200 (by repeat' (first | exact hR | apply OKR.pI | apply OKR.pL | apply OKR.cpI | apply OKR.wI)) ?_)
                  refine m_X_isRow1 (by repeat' (first | exact hR | apply OKR.pI | apply OKR.pL | apply OKR.cpI | apply OKR.wI)) ha (And.intro (by repeat' (first | exact hR | apply OKR.pI | apply OKR.pL | apply OKR.cpI | apply OKR.wI)) ?_)
                  refine And.intro (fun c3 => ?_) (fun c3 => ?_)
                  · first | exact absurd c3 (by decide) | exact absurd (by decide) c3 | (exfalso; grind)
                  · try dsimp only at c3
                    refine m_X_isRow1 (by repeat' (first | exact hR | apply OKR.pI | apply OKR.pL | apply OKR.cpI | apply OKR.wI)) hb (And.intro (by repeat' (first | exact hR | apply OKR.pI | apply OKR.pL | apply OKR.cpI | apply OKR.wI)) ?_)
                    refine And.intro (fun c7 => ?_) (fun c7 => ?_)
                    · first | exact absurd c7 (by decide) | exact absurd (by decide) c7 | (exfalso; grind)
                    · try dsimp only at c7
                      refine And.intro (fun c11 => ?_) (fun c11 => ?_)
                      · try dsimp only at c11
                        refine And.intro ⟨(by first | decide | assumption | omega), (by first | decide | assumption | omega)⟩ ?_
                        refine And.intro ⟨(by first | exact vp_nI (k := a) (N := 6) ha (by decide) | exact vp_nI (k := b) (N := 6) hb (by decide)), (by first | exact ⟨rfl, by rw [ea]; exact ha⟩ | exact ⟨rfl, by rw [eb]; exact hb⟩)⟩ ?_
                        rw [show (nI a).toNatClampNeg = a from ea]
                        refine m_Ce_isMissing0 (by repeat' (first | exact hR | apply OKR.pI | apply OKR.pL | apply OKR.cpI | apply OKR.wI)) (n := na) (by omega) s1 (And.intro (by repeat' (first | exact hR | apply OKR.pI | apply OKR.pL | apply OKR.cpI | apply OKR.wI)) ?_)
                        refine And.intro (fun c21 => ?_) (fun c21 => ?_)
                        · try dsimp only at c21
                          refine And.intro ⟨(by first | decide | assumption | omega), (by first | decide | assumption | omega)⟩ ?_
                          refine And.intro ⟨(by first | exact vp_nI (k := a) (N := 6) ha (by decide) | exact vp_nI (k := b) (N := 6) hb (by decide)), (by first | exact ⟨rfl, by rw [ea]; exact ha⟩ | exact ⟨rfl, by rw [eb]; exact hb⟩)⟩ ?_
                          rw [show (nI b).toNatClampNeg = b from eb]
                          refine m_Ce_isMissing0 (by repeat' (first | exact hR | apply OKR.pI | apply OKR.pL | apply OKR.cpI | apply OKR.wI)) (n := nb) (by omega) u1 (And.intro (by repeat' (first | exact hR | apply OKR.pI | apply OKR.pL | apply OKR.cpI | apply OKR.wI)) ?_)
                          refine And.intro (fun c27 => ?_) (fun c27 => ?_)
                          · try dsimp only at c27
                            refine And.intro ⟨(by first | decide | assumption | omega), (by first | decide | assumption | omega)⟩ ?_
                            refine And.intro ⟨(by first | exact vp_nI (k := a) (N := 6) ha (by decide) | exact vp_nI (k := b) (N := 6) hb (by decide)), (by first | exact ⟨rfl, by rw [ea]; exact ha⟩ | exact ⟨rfl, by rw [eb]; exact hb⟩)⟩ ?_
                            rw [show (nI a).toNatClampNeg = a from ea]
                            refine m_Ce_hasSpan0 (by repeat' (first | exact hR | apply OKR.pI | apply OKR.pL | apply OKR.cpI | apply OKR.wI)) hna hx hc s1 w1 (And.intro (by repeat' (first | exact hR | apply OKR.pI | apply OKR.pL | apply OKR.cpI | apply OKR.wI)) ?_)
                            refine And.intro (fun c39 => ?_) (fun c39 => ?_)
                            · try dsimp only at c39
                              refine m_X_found2 (by repeat' (first | exact hR | apply OKR.pI | apply OKR.pL | apply OKR.cpI | apply OKR.wI))  (And.intro (by repeat' (first | exact hR | apply OKR.pI | apply OKR.pL | apply OKR.cpI | apply OKR.wI)) ?_)
                              refine And.intro trivial ?_
                              refine w_M_copy (Go.runR (callT_mono MT _) [62, 79] 200 (by repeat' (first | exact hR | apply OKR.pI | apply OKR.pL | apply OKR.cpI | apply OKR.wI)) ?_)
                              refine m_M_isRow1 (by repeat' (first | exact hR | apply OKR.pI | apply OKR.pL | apply OKR.cpI | apply OKR.wI)) ha (And.intro (by repeat' (first | exact hR | apply OKR.pI | apply OKR.pL | apply OKR.cpI | apply OKR.wI)) ?_)
                              refine And.intro (fun c2 => ?_) (fun c2 => ?_)
                              · first | exact absurd c2 (by decide) | exact absurd (by decide) c2 | (exfalso; grind)
                              · try dsimp only at c2
                                refine m_M_isRow1 (by repeat' (first | exact hR | apply OKR.pI | apply OKR.pL | apply OKR.cpI | apply OKR.wI)) hb (And.intro (by repeat' (first | exact hR | apply OKR.pI | apply OKR.pL | apply OKR.cpI | apply OKR.wI)) ?_)
                                refine And.intro (fun c5 => ?_) (fun c5 => ?_)
                                · first | exact absurd c5 (by decide) | exact absurd (by decide) c5 | (exfalso; grind)
                                · try dsimp only at c5
                                  refine And.intro (fun c9 => ?_) (fun c9 => ?_)
                                  · try dsimp only at c9
                                    refine And.intro ⟨rfl, rfl, rfl⟩ ?_
                                    refine And.intro (vp_nI (N := 6) ha (by decide)) ?_
                                    refine And.intro (fun c18 => ?_) (fun c18 => ?_)
                                    · exact absurd (show gI (foundM m 2) (1, 2, 0) (nI a).toNatClampNeg < 0 from c18) (by rw [ea, show gI (foundM m 2) (1, 2, 0) a = nI na from s2]; exact nI_pos (by omega))
                                    · try dsimp only at c18
                                      refine And.intro ⟨rfl, rfl, rfl⟩ ?_
                                      refine And.intro (vp_nI (N := 6) hb (by decide)) ?_
                                      refine And.intro (fun c23 => ?_) (fun c23 => ?_)
                                      · try dsimp only at c23
                                        refine And.intro (fun c29 => ?_) (fun c29 => ?_)
                                        · exact absurd c29 (nI_pos (by omega))
                                        · try dsimp only at c29
                                          refine And.intro (fun c31 => ?_) (fun c31 => ?_)
                                          · exact absurd c31 qj
                                          · try dsimp only at c31
                                            refine And.intro ⟨rfl, rfl, rfl⟩ ?_
                                            refine And.intro (vp_nI (N := 6) ha (by decide)) ?_
                                            refine And.intro (fun c43 => ?_) (fun c43 => ?_)
                                            · try dsimp only at c43
                                              refine m_M_meet2 (by repeat' (first | exact hR | apply OKR.pI | apply OKR.pL | apply OKR.cpI | apply OKR.wI))  (And.intro (by repeat' (first | exact hR | apply OKR.pI | apply OKR.pL | apply OKR.cpI | apply OKR.wI)) ?_)
                                              refine And.intro trivial ?_
                                              exact h _ _ (R.meet (by omega) (by omega))
                                            · exact absurd (show 0 < lg_cmp ((nI x).toInt64 + (nI c).toInt64) (gI (foundM m 2) (1, 2, 0) (nI a).toNatClampNeg).toInt64 by
                                              rw [lg_cmp_gt, ea, show gI (foundM m 2) (1, 2, 0) a = nI na from s2]
                                              exact Int64.not_le.mp (fun z => w1 ((spanL hna hx hc).mp z))) c43
                                      · exact absurd (show 0 ≤ gI (foundM m 2) (1, 2, 0) (nI b).toNatClampNeg by rw [eb, show gI (foundM m 2) (1, 2, 0) b = nI nb from u2]; exact nI_pos' (by omega)) c23
                                  · exact absurd (nI_pos' (by omega)) c9
                            · first | exact absurd c39 (by decide) | exact absurd (by decide) c39 | (exfalso; grind)
                          · first | exact absurd c27 (by decide) | exact absurd (by decide) c27 | (exfalso; grind)
                        · first | exact absurd c21 (by decide) | exact absurd (by decide) c21 | (exfalso; grind)
                      · exact absurd (nI_pos' (by omega)) c11
    · refine w_X_copy (Go.runR (callT_mono MT _) [] 200 (by repeat' (first | exact hR | apply OKR.pI | apply OKR.pL | apply OKR.cpI | apply OKR.wI)) ?_)
      refine m_X_isRow1 (by repeat' (first | exact hR | apply OKR.pI | apply OKR.pL | apply OKR.cpI | apply OKR.wI)) ha (And.intro (by repeat' (first | exact hR | apply OKR.pI | apply OKR.pL | apply OKR.cpI | apply OKR.wI)) ?_)
      refine And.intro (fun c3 => ?_) (fun c3 => ?_)
      · first | exact absurd c3 (by decide) | exact absurd (by decide) c3 | (exfalso; grind)
      · try dsimp only at c3
        refine m_X_isRow0 (by repeat' (first | exact hR | apply OKR.pI | apply OKR.pL | apply OKR.cpI | apply OKR.wI)) q2 (And.intro (by repeat' (first | exact hR | apply OKR.pI | apply OKR.pL | apply OKR.cpI | apply OKR.wI)) ?_)
        refine And.intro (fun c7 => ?_) (fun c7 => ?_)
        · try dsimp only at c7
          refine And.intro trivial ?_
          refine w_M_copy (Go.runR (callT_mono MT _) [62, 79] 200 (by repeat' (first | exact hR | apply OKR.pI | apply OKR.pL | apply OKR.cpI | apply OKR.wI)) ?_)
          refine m_M_isRow1 (by repeat' (first | exact hR | apply OKR.pI | apply OKR.pL | apply OKR.cpI | apply OKR.wI)) ha (And.intro (by repeat' (first | exact hR | apply OKR.pI | apply OKR.pL | apply OKR.cpI | apply OKR.wI)) ?_)
          refine And.intro (fun c2 => ?_) (fun c2 => ?_)
          · first | exact absurd c2 (by decide) | exact absurd (by decide) c2 | (exfalso; grind)
          · try dsimp only at c2
            refine m_M_isRow0 (by repeat' (first | exact hR | apply OKR.pI | apply OKR.pL | apply OKR.cpI | apply OKR.wI)) q2 (And.intro (by repeat' (first | exact hR | apply OKR.pI | apply OKR.pL | apply OKR.cpI | apply OKR.wI)) ?_)
            refine And.intro (fun c5 => ?_) (fun c5 => ?_)
            · try dsimp only at c5
              refine And.intro trivial ?_
              exact h _ _ R
            · first | exact absurd c5 (by decide) | exact absurd (by decide) c5 | (exfalso; grind)
        · first | exact absurd c7 (by decide) | exact absurd (by decide) c7 | (exfalso; grind)
  · refine w_X_copy (Go.runR (callT_mono MT _) [] 200 (by repeat' (first | exact hR | apply OKR.pI | apply OKR.pL | apply OKR.cpI | apply OKR.wI)) ?_)
    refine m_X_isRow0 (by repeat' (first | exact hR | apply OKR.pI | apply OKR.pL | apply OKR.cpI | apply OKR.wI)) q1 (And.intro (by repeat' (first | exact hR | apply OKR.pI | apply OKR.pL | apply OKR.cpI | apply OKR.wI)) ?_)
    refine And.intro (fun c3 => ?_) (fun c3 => ?_)
    · try dsimp only at c3
      refine And.intro trivial ?_
      refine w_M_copy (Go.runR (callT_mono MT _) [62, 79] 200 (by repeat' (first | exact hR | apply OKR.pI | apply OKR.pL | apply OKR.cpI | apply OKR.wI)) ?_)
      refine m_M_isRow0 (by repeat' (first | exact hR | apply OKR.pI | apply OKR.pL | apply OKR.cpI | apply OKR.wI)) q1 (And.intro (by repeat' (first | exact hR | apply OKR.pI | apply OKR.pL | apply OKR.cpI | apply OKR.wI)) ?_)
      refine And.intro (fun c2 => ?_) (fun c2 => ?_)
      · try dsimp only at c2
        refine And.intro trivial ?_
        exact h _ _ R
      · first | exact absurd c2 (by decide) | exact absurd (by decide) c2 | (exfalso; grind)
    · first | exact absurd c3 (by decide) | exact absurd (by decide) c3 | (exfalso; grind)
