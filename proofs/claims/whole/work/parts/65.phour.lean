/-! Written by a program (wip/whole/p65.py): hour, both sides. -/

theorem p_hour {d : Nat} {m : Mem} {K : Option Vv → Option Vv → Mem → Prop} (R : RelAB m) {v : Int32} (h : ∀ v m', RelAB m' → K v v m') : cW (d + 9) n_X_hour [vo 0 0 0, vi v] m (fun u m1 => cW (d + 9) n_M_hour [vo 1 0 0, vi v] m1 (fun w m2 => K u w m2)) := by
  have hR := R.1
  obtain ⟨n, hc⟩ := R.2.2.2.2
  obtain ⟨D, hS⟩ := hc.sc hR
  have ht := R.2.2.2.1
  obtain ⟨q1, q2⟩ := hc.many
  have h8 := hc.le
  have bb2 := two_l n (by omega)
  obtain ⟨T, hT, t1, t2, t3⟩ := hc.hrs
  rcases setCase (n := n) v with ⟨s, hs, rfl⟩ | q
  · rcases Nat.eq_zero_or_pos n with y | y
    · subst y
      refine w_X_hour (Go.runR (callT_mono MT _) [] 200 (by repeat' (first | exact hR | exact g1.ok | exact g2.ok | exact g3.ok | apply OKR.pI | apply OKR.pL | apply OKR.cpI | apply OKR.wI)) ?_)
      refine And.intro ⟨(by first | decide | assumption | omega), (by first | decide | assumption | omega)⟩ ?_
      refine m_St_hasSet1 (by exact hS) rfl hs (And.intro (by repeat' (first | exact hR | exact g1.ok | exact g2.ok | exact g3.ok | apply OKR.pI | apply OKR.pL | apply OKR.cpI | apply OKR.wI)) ?_)
      refine And.intro (fun c4 => ?_) (fun c4 => ?_)
      · first | exact absurd c4 (by decide) | exact absurd (by decide) c4 | (exfalso; grind)
      · try dsimp only at c4
        refine And.intro ⟨(by first | decide | assumption | omega), (by first | decide | assumption | omega)⟩ ?_
        refine And.intro (fun c10 => ?_) (fun c10 => ?_)
        · try dsimp only at c10
          refine And.intro trivial ?_
          refine w_M_hour (Go.runR (callT_mono MT _) [45] 200 (by repeat' (first | exact hR | exact g1.ok | exact g2.ok | exact g3.ok | apply OKR.pI | apply OKR.pL | apply OKR.cpI | apply OKR.wI)) ?_)
          refine m_M_isSet1 (by exact hS) rfl hs (And.intro (by repeat' (first | exact hR | exact g1.ok | exact g2.ok | exact g3.ok | apply OKR.pI | apply OKR.pL | apply OKR.cpI | apply OKR.wI)) ?_)
          refine And.intro (fun c3 => ?_) (fun c3 => ?_)
          · first | exact absurd c3 (by decide) | exact absurd (by decide) c3 | (exfalso; grind)
          · try dsimp only at c3
            refine And.intro (fun c8 => ?_) (fun c8 => ?_)
            · try dsimp only at c8
              refine And.intro trivial ?_
              exact h _ _ R
            · exact absurd q2 c8
        · exact absurd q1 c10
    · rcases Nat.lt_or_ge T 40 with z | z
      · refine w_X_hour (Go.runR (callT_mono MT _) [] 200 (by repeat' (first | exact hR | exact g1.ok | exact g2.ok | exact g3.ok | apply OKR.pI | apply OKR.pL | apply OKR.cpI | apply OKR.wI)) ?_)
        refine And.intro ⟨(by first | decide | assumption | omega), (by first | decide | assumption | omega)⟩ ?_
        refine m_St_hasSet1 (by exact hS) rfl hs (And.intro (by repeat' (first | exact hR | exact g1.ok | exact g2.ok | exact g3.ok | apply OKR.pI | apply OKR.pL | apply OKR.cpI | apply OKR.wI)) ?_)
        refine And.intro (fun c4 => ?_) (fun c4 => ?_)
        · first | exact absurd c4 (by decide) | exact absurd (by decide) c4 | (exfalso; grind)
        · try dsimp only at c4
          refine And.intro ⟨(by first | decide | assumption | omega), (by first | decide | assumption | omega)⟩ ?_
          refine And.intro (fun c10 => ?_) (fun c10 => ?_)
          · exact absurd (q1.symm.trans c10) (sz0 y (by omega))
          · try dsimp only at c10
            refine And.intro ⟨(by first | decide | assumption | omega), (by first | decide | assumption | omega)⟩ ?_
            refine And.intro (fun c17 => ?_) (fun c17 => ?_)
            · try dsimp only at c17
              refine And.intro ⟨(by first | decide | assumption | omega), (by first | decide | assumption | omega)⟩ ?_
              refine m_St_ring (by exact hS) y z rfl (by omega) t1 (fun m1 A => And.intro A.1.ok ?_)
              have g1 := A.1
              have w7 : gI m1 (0, 5, 0) 7 = nI (lkN D (dT D + roH n D s)) := by rw [A.2.2.2.2]; rfl
              have hSw : SW n D (tellM m1 (nI (ovH n D s))) := SW.cg (m := m) g1.ok.pI (fun i => (kn_rw (fun _ => rfl) i).trans (g1.kn i)) (fun k hk => by
                show gI m1 (0, 5, 0) k = _
                rw [A.2.2.2.2, if_neg (by omega), if_neg (by omega), if_neg (by omega)]) (fun i k hk => by
                show gI m1 (0, 8, i) k = _
                rw [A.2.1, if_neg (by omega)]) (fun k _ => g1.2.2.2.2 0 0 k (by simp)) (fun t k _ => g1.2.2.2.2 t 0 k (by simp)) hS.sw
              have u20 : gI (tellM m1 (nI (ovH n D s))) (1, 0, 0) 20 = nI T := (g1.2.2.2.2 0 0 20 (by simp)).trans t2
              have u21 : gI (tellM m1 (nI (ovH n D s))) (1, 0, 0) 21 = nI (dT D) := (g1.2.2.2.2 0 0 21 (by simp)).trans hS.wt.2.2
              have ud : ∀ i, i < n → gI (tellM m1 (nI (ovH n D s))) (1, 10, 0) i = dM D i := fun i hi => (g1.2.2.2.2 10 0 i (by simp)).trans (hS.hs hi).2.2.2.2.2.2.2.2.2.2.2.2.1
              refine And.intro ⟨(by first | decide | assumption | omega), (by first | decide | assumption | omega)⟩ ?_
              refine m_X_tell (by repeat' (first | exact hR | exact g1.ok | exact g2.ok | exact g3.ok | apply OKR.pI | apply OKR.pL | apply OKR.cpI | apply OKR.wI))  (And.intro (by repeat' (first | exact hR | exact g1.ok | exact g2.ok | exact g3.ok | apply OKR.pI | apply OKR.pL | apply OKR.cpI | apply OKR.wI)) ?_)
              refine And.intro trivial ?_
              refine w_M_hour (Go.runR (callT_mono MT _) [45] 200 (by repeat' (first | exact hR | exact g1.ok | exact g2.ok | exact g3.ok | apply OKR.pI | apply OKR.pL | apply OKR.cpI | apply OKR.wI)) ?_)
              refine wm_M_isSet1 (by exact hSw) rfl hs (And.intro (by repeat' (first | exact hR | exact g1.ok | exact g2.ok | exact g3.ok | apply OKR.pI | apply OKR.pL | apply OKR.cpI | apply OKR.wI)) ?_)
              refine And.intro (fun c3 => ?_) (fun c3 => ?_)
              · first | exact absurd c3 (by decide) | exact absurd (by decide) c3 | (exfalso; grind)
              · try dsimp only at c3
                refine And.intro (fun c8 => ?_) (fun c8 => ?_)
                · exact absurd (hSw.nB.symm.trans c8) (sz0 y (by omega))
                · try dsimp only at c8
                  refine And.intro (fun c14 => ?_) (fun c14 => ?_)
                  · exact absurd (nI_in1 (a := T) (b := 40) (by omega) (by omega) (u20.symm.trans c14)) (by omega)
                  · try dsimp only at c14
                    refine And.intro ⟨rfl, rfl, rfl⟩ ?_
                    refine And.intro (by show vp_in (12 * gI (tellM m1 (nI (ovH n D s))) (1, 0, 0) 20) 480; rw [u20, pk12]; exact vp_nI (by omega) (by decide)) ?_
                    refine And.intro ⟨rfl, rfl, rfl⟩ ?_
                    refine And.intro (by show vp_in (12 * gI (tellM m1 (nI (ovH n D s))) (1, 0, 0) 20 + 2) 480; rw [u20, pk12, show (2 : Int32) = nI 2 from rfl, nI_add]; exact vp_nI (by omega) (by decide)) ?_
                    refine And.intro ⟨rfl, rfl, rfl⟩ ?_
                    refine And.intro (by show vp_in (12 * gI (tellM m1 (nI (ovH n D s))) (1, 0, 0) 20 + 3) 480; rw [u20, pk12, show (3 : Int32) = nI 3 from rfl, nI_add]; exact vp_nI (by omega) (by decide)) ?_
                    have e12 : (12 : Int32) * gI (tellM m1 (nI (ovH n D s))) (1, 0, 0) 20 = nI (12 * T) := by rw [u20, pk12]
                    have e0' : (12 * gI (tellM m1 (nI (ovH n D s))) (1, 0, 0) 20).toNatClampNeg = 12 * T := by rw [e12, nI_clamp (by omega)]
                    have e2' : (12 * gI (tellM m1 (nI (ovH n D s))) (1, 0, 0) 20 + 2).toNatClampNeg = 12 * T + 2 := by rw [e12, show (2 : Int32) = nI 2 from rfl, nI_add, nI_clamp (by omega)]
                    have e3' : (12 * gI (tellM m1 (nI (ovH n D s))) (1, 0, 0) 20 + 3).toNatClampNeg = 12 * T + 3 := by rw [e12, show (3 : Int32) = nI 3 from rfl, nI_add, nI_clamp (by omega)]
                    refine go_eq (ls' := [vo 1 0 0, vi (nI s), vi (nI (12 * T)), vi (nI 0), vu, vu]) (m' := pI (pI (pI (tellM m1 (nI (ovH n D s))) (1, 12, 0) (12 * T) (nI s)) (1, 12, 0) (12 * T + 2) (gI (tellM m1 (nI (ovH n D s))) (1, 0, 0) 21)) (1, 12, 0) (12 * T + 3) (gI (tellM m1 (nI (ovH n D s))) (1, 0, 0) 22)) ?_ ?_ (l_M_hour45 (m0 := tellM m1 (nI (ovH n D s))) hSw y ud ⟨hS.wt.1, u21⟩ (by omega) z u20 (fun m2 B => ?_) 0 _ ⟨(((Nx.refl hSw.ok).p1 (by simp)).p1 (by simp)).p1 (by simp), ?_⟩ (by omega))
                    · show [vo 1 0 0, vi (nI s), vi (12 * gI (tellM m1 (nI (ovH n D s))) (1, 0, 0) 20), vi 0, vu, vu] = _
                      rw [e12]
                      rfl
                    · show pI (pI (pI (tellM m1 (nI (ovH n D s))) (1, 12, 0) (12 * gI (tellM m1 (nI (ovH n D s))) (1, 0, 0) 20).toNatClampNeg (nI s)) (1, 12, 0) (12 * gI (tellM m1 (nI (ovH n D s))) (1, 0, 0) 20 + 2).toNatClampNeg (gI (tellM m1 (nI (ovH n D s))) (1, 0, 0) 21)) (1, 12, 0) (12 * gI (tellM m1 (nI (ovH n D s))) (1, 0, 0) 20 + 3).toNatClampNeg (gI (tellM m1 (nI (ovH n D s))) (1, 0, 0) 22) = _
                      rw [e0', e2', e3']
                    · rw [w7]
                      exact h _ _ (R.hour hc hS y z t1 A B)
                    · refine ⟨fun x hx => ?_, ?_, ?_, ?_, fun i hi => absurd hi (by omega)⟩
                      · rw [rd11, if_neg (by omega), rd11, if_neg (by omega), rd11, if_neg (by omega)]
                      · rw [rd11, if_neg (by omega), rd11, if_neg (by omega), rd11, if_pos ⟨rfl, rfl, rfl⟩]
                      · rw [rd11, if_neg (by omega), rd11, if_pos ⟨rfl, rfl, rfl⟩]
                      · rw [rd11, if_pos ⟨rfl, rfl, rfl⟩]
            · exact absurd (by show gI m (0, 5, 0) 4 < 40; rw [t1]; exact nI_lt (b := 40) z (by decide)) c17
      · obtain rfl : T = 40 := by omega
        refine w_X_hour (Go.runR (callT_mono MT _) [] 200 (by repeat' (first | exact hR | exact g1.ok | exact g2.ok | exact g3.ok | apply OKR.pI | apply OKR.pL | apply OKR.cpI | apply OKR.wI)) ?_)
        refine And.intro ⟨(by first | decide | assumption | omega), (by first | decide | assumption | omega)⟩ ?_
        refine m_St_hasSet1 (by exact hS) rfl hs (And.intro (by repeat' (first | exact hR | exact g1.ok | exact g2.ok | exact g3.ok | apply OKR.pI | apply OKR.pL | apply OKR.cpI | apply OKR.wI)) ?_)
        refine And.intro (fun c4 => ?_) (fun c4 => ?_)
        · first | exact absurd c4 (by decide) | exact absurd (by decide) c4 | (exfalso; grind)
        · try dsimp only at c4
          refine And.intro ⟨(by first | decide | assumption | omega), (by first | decide | assumption | omega)⟩ ?_
          refine And.intro (fun c10 => ?_) (fun c10 => ?_)
          · exact absurd (q1.symm.trans c10) (sz0 y (by omega))
          · try dsimp only at c10
            refine And.intro ⟨(by first | decide | assumption | omega), (by first | decide | assumption | omega)⟩ ?_
            refine And.intro (fun c17 => ?_) (fun c17 => ?_)
            · exact absurd c17 (by show ¬ gI m (0, 5, 0) 4 < 40; rw [t1]; exact nI_nlt (b := 40) (by omega) (by decide))
            · try dsimp only at c17
              refine And.intro trivial ?_
              refine w_M_hour (Go.runR (callT_mono MT _) [45] 200 (by repeat' (first | exact hR | exact g1.ok | exact g2.ok | exact g3.ok | apply OKR.pI | apply OKR.pL | apply OKR.cpI | apply OKR.wI)) ?_)
              refine m_M_isSet1 (by exact hS) rfl hs (And.intro (by repeat' (first | exact hR | exact g1.ok | exact g2.ok | exact g3.ok | apply OKR.pI | apply OKR.pL | apply OKR.cpI | apply OKR.wI)) ?_)
              refine And.intro (fun c3 => ?_) (fun c3 => ?_)
              · first | exact absurd c3 (by decide) | exact absurd (by decide) c3 | (exfalso; grind)
              · try dsimp only at c3
                refine And.intro (fun c8 => ?_) (fun c8 => ?_)
                · exact absurd (q2.symm.trans c8) (sz0 y (by omega))
                · try dsimp only at c8
                  refine And.intro (fun c14 => ?_) (fun c14 => ?_)
                  · try dsimp only at c14
                    refine And.intro trivial ?_
                    exact h _ _ R
                  · exact absurd t2 c14
  · refine w_X_hour (Go.runR (callT_mono MT _) [] 200 (by repeat' (first | exact hR | exact g1.ok | exact g2.ok | exact g3.ok | apply OKR.pI | apply OKR.pL | apply OKR.cpI | apply OKR.wI)) ?_)
    refine And.intro ⟨(by first | decide | assumption | omega), (by first | decide | assumption | omega)⟩ ?_
    refine m_St_hasSet0 (by exact hS) q (And.intro (by repeat' (first | exact hR | exact g1.ok | exact g2.ok | exact g3.ok | apply OKR.pI | apply OKR.pL | apply OKR.cpI | apply OKR.wI)) ?_)
    refine And.intro (fun c4 => ?_) (fun c4 => ?_)
    · try dsimp only at c4
      refine And.intro trivial ?_
      refine w_M_hour (Go.runR (callT_mono MT _) [45] 200 (by repeat' (first | exact hR | exact g1.ok | exact g2.ok | exact g3.ok | apply OKR.pI | apply OKR.pL | apply OKR.cpI | apply OKR.wI)) ?_)
      refine m_M_isSet0 (by exact hS) q (And.intro (by repeat' (first | exact hR | exact g1.ok | exact g2.ok | exact g3.ok | apply OKR.pI | apply OKR.pL | apply OKR.cpI | apply OKR.wI)) ?_)
      refine And.intro (fun c3 => ?_) (fun c3 => ?_)
      · try dsimp only at c3
        refine And.intro trivial ?_
        exact h _ _ R
      · first | exact absurd c3 (by decide) | exact absurd (by decide) c3 | (exfalso; grind)
    · first | exact absurd c4 (by decide) | exact absurd (by decide) c4 | (exfalso; grind)
