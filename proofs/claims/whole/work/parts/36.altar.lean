/-! Written by a program (wip/whole/p36.py): altar. -/
theorem RelAB.ofCur {n : Nat} {m m' : Mem} (R : RelAB m) (hok : OKR m') (hc : CurR n m') (h0 : ∀ t i k, t = 1 ∨ t = 2 → gI m' (0, t, i) k = gI m (0, t, i) k) (h1 : ∀ t k, t = 2 ∨ t = 3 ∨ t = 5 ∨ t = 6 → gI m' (1, t, 0) k = gI m (1, t, 0) k) (ht : TellR m') : RelAB m' :=
  ⟨hok, R.2.1.cg (fun r _ => h0 1 r 1 (by omega)) (fun r k _ => h0 2 r k (by omega)) (fun k => h1 2 k (by omega)) (fun k => h1 3 k (by omega)), R.2.2.1.cg (fun r => h0 1 _ 1 (by omega)) (fun r k => h0 2 _ k (by omega)) (fun k => h1 5 k (by omega)) (fun k => h1 6 k (by omega)), ht, n, hc⟩
theorem RelAB.altar {m : Mem} (R : RelAB m) {n a : Nat} (hc : CurR n m) (hn : 0 < n) (ha : a ≤ 9) : RelAB (pI (pI m (0, 5, 0) 5 (nI a)) (1, 0, 0) 11 (nI a)) := by
  obtain ⟨h8, hm, -, h1⟩ := hc
  obtain ⟨hl, ⟨H, s1, s2⟩, hk⟩ := h1 hn
  have e5 : ∀ k j, gI (pI (pI m (0, 5, 0) 5 (nI a)) (1, 0, 0) 11 (nI a)) (0, 5, 1 + k) j = gI m (0, 5, 1 + k) j := fun k j => by rw [rd10, rd00, if_neg (by omega)]
  refine R.ofCur (n := n) R.1.pI.pI ⟨h8, hm, fun z => absurd z (by omega), fun _ => ⟨hl.cg h8 (fun i => kn_rw (fun _ => rfl) i) (fun _ => rfl) (fun _ => rfl) (fun _ _ => rfl) rfl rfl, ⟨H, s1, ?_⟩, fun k hk3 => (hk k hk3).cg h8 (e5 k) (fun _ _ _ => rfl) (fun _ _ _ => rfl) (fun _ _ _ => rfl) (fun _ _ _ => rfl) (fun _ => rfl) (fun i => kn_rw (fun _ => rfl) i) (fun _ _ => rfl) rfl⟩⟩ (fun t i k q => by rw [rd10, rd00, if_neg (by omega)]) (fun t k q => by rw [rd11, rd01, if_neg (by omega)]) R.2.2.2.1
  obtain ⟨a1, a2, a3, a4, a5, a6, a7, a8, a9⟩ := s2
  exact ⟨a1, a2, a3, ⟨rfl, a, ha, rfl⟩, a5, a6, a7, a8, a9⟩

theorem p_altar {d : Nat} {m : Mem} {K : Option Vv → Option Vv → Mem → Prop} (R : RelAB m) {v : Int32} (h : ∀ v m', RelAB m' → K v v m') : cW (d + 2) n_X_altar [vo 0 0 0, vi v] m (fun u m1 => cW (d + 2) n_M_altar [vo 1 0 0, vi v] m1 (fun w m2 => K u w m2)) := by
  have hR := R.1
  obtain ⟨n, hc⟩ := R.2.2.2.2
  have ht := R.2.2.2.1
  obtain ⟨q1, q2⟩ := hc.many
  have h8 := hc.le
  by_cases q : 0 ≤ v ∧ v ≤ 9
  · rcases Nat.eq_zero_or_pos n with z | z
    · subst z
      refine w_X_altar (Go.runR (callT_mono MT _) [] 200 (by repeat' (first | exact hR | apply OKR.pI | apply OKR.pL | apply OKR.cpI | apply OKR.wI)) ?_)
      refine m_X_isWithin (by repeat' (first | exact hR | apply OKR.pI | apply OKR.pL | apply OKR.cpI | apply OKR.wI)) (And.intro (by repeat' (first | exact hR | apply OKR.pI | apply OKR.pL | apply OKR.cpI | apply OKR.wI)) ?_)
      rw [show b2 (0 ≤ v ∧ v ≤ 9) = 1 from if_pos q]
      refine And.intro (fun c4 => ?_) (fun c4 => ?_)
      · first | exact absurd c4 (by decide) | exact absurd (by decide) c4 | (exfalso; grind)
      · try dsimp only at c4
        refine And.intro ⟨(by first | decide | assumption | omega), (by first | decide | assumption | omega)⟩ ?_
        refine And.intro (fun c10 => ?_) (fun c10 => ?_)
        · try dsimp only at c10
          refine And.intro trivial ?_
          refine w_M_altar (Go.runR (callT_mono MT _) [] 200 (by repeat' (first | exact hR | apply OKR.pI | apply OKR.pL | apply OKR.cpI | apply OKR.wI)) ?_)
          refine m_M_in (by repeat' (first | exact hR | apply OKR.pI | apply OKR.pL | apply OKR.cpI | apply OKR.wI)) (And.intro (by repeat' (first | exact hR | apply OKR.pI | apply OKR.pL | apply OKR.cpI | apply OKR.wI)) ?_)
          rw [show b2 (0 ≤ v ∧ v ≤ 9) = 1 from if_pos q]
          refine And.intro (fun c4 => ?_) (fun c4 => ?_)
          · first | exact absurd c4 (by decide) | exact absurd (by decide) c4 | (exfalso; grind)
          · try dsimp only at c4
            refine And.intro (fun c9 => ?_) (fun c9 => ?_)
            · try dsimp only at c9
              refine And.intro trivial ?_
              exact h _ _ R
            · exact absurd (show gI m (1, 0, 0) 10 = 0 from q2) c9
        · exact absurd (show gI m (0, 5, 0) 3 = 0 from q1) c10
    · obtain ⟨a, ha, rfl⟩ := nI_of2 (x := v) (M := 9) (n := 9) rfl (by grind) q.2
      have hq : gI m (0, 5, 0) 5 = gI m (1, 0, 0) 11 := by
        obtain ⟨-, ⟨H, -, -, -, -, ⟨w, -⟩, -⟩, -⟩ := hc.2.2.2 z
        exact w
      refine w_X_altar (Go.runR (callT_mono MT _) [] 200 (by repeat' (first | exact hR | apply OKR.pI | apply OKR.pL | apply OKR.cpI | apply OKR.wI)) ?_)
      refine m_X_isWithin (by repeat' (first | exact hR | apply OKR.pI | apply OKR.pL | apply OKR.cpI | apply OKR.wI)) (And.intro (by repeat' (first | exact hR | apply OKR.pI | apply OKR.pL | apply OKR.cpI | apply OKR.wI)) ?_)
      rw [show b2 (0 ≤ nI a ∧ nI a ≤ 9) = 1 from if_pos q]
      refine And.intro (fun c4 => ?_) (fun c4 => ?_)
      · first | exact absurd c4 (by decide) | exact absurd (by decide) c4 | (exfalso; grind)
      · try dsimp only at c4
        refine And.intro ⟨(by first | decide | assumption | omega), (by first | decide | assumption | omega)⟩ ?_
        refine And.intro (fun c10 => ?_) (fun c10 => ?_)
        · exact absurd (show nI n = 0 from q1.symm.trans c10) (sz0 z (by omega))
        · try dsimp only at c10
          refine And.intro ⟨(by first | decide | assumption | omega), (by first | decide | assumption | omega)⟩ ?_
          refine And.intro ⟨(by first | decide | assumption | omega), (by first | decide | assumption | omega)⟩ ?_
          refine And.intro trivial ?_
          refine w_M_altar (Go.runR (callT_mono MT _) [] 200 (by repeat' (first | exact hR | apply OKR.pI | apply OKR.pL | apply OKR.cpI | apply OKR.wI)) ?_)
          refine m_M_in (by repeat' (first | exact hR | apply OKR.pI | apply OKR.pL | apply OKR.cpI | apply OKR.wI)) (And.intro (by repeat' (first | exact hR | apply OKR.pI | apply OKR.pL | apply OKR.cpI | apply OKR.wI)) ?_)
          rw [show b2 (0 ≤ nI a ∧ nI a ≤ 9) = 1 from if_pos q]
          refine And.intro (fun c4 => ?_) (fun c4 => ?_)
          · first | exact absurd c4 (by decide) | exact absurd (by decide) c4 | (exfalso; grind)
          · try dsimp only at c4
            refine And.intro (fun c9 => ?_) (fun c9 => ?_)
            · exact absurd (show nI n = 0 from q2.symm.trans c9) (sz0 z (by omega))
            · try dsimp only at c9
              refine And.intro trivial ?_
              show K (some (vi (gI m (0, 5, 0) 5))) (some (vi (gI m (1, 0, 0) 11))) _
              rw [hq]
              exact h _ _ (R.altar hc z ha)
  · refine w_X_altar (Go.runR (callT_mono MT _) [] 200 (by repeat' (first | exact hR | apply OKR.pI | apply OKR.pL | apply OKR.cpI | apply OKR.wI)) ?_)
    refine m_X_isWithin (by repeat' (first | exact hR | apply OKR.pI | apply OKR.pL | apply OKR.cpI | apply OKR.wI)) (And.intro (by repeat' (first | exact hR | apply OKR.pI | apply OKR.pL | apply OKR.cpI | apply OKR.wI)) ?_)
    rw [show b2 (0 ≤ v ∧ v ≤ 9) = 0 from if_neg q]
    refine And.intro (fun c4 => ?_) (fun c4 => ?_)
    · try dsimp only at c4
      refine And.intro trivial ?_
      refine w_M_altar (Go.runR (callT_mono MT _) [] 200 (by repeat' (first | exact hR | apply OKR.pI | apply OKR.pL | apply OKR.cpI | apply OKR.wI)) ?_)
      refine m_M_in (by repeat' (first | exact hR | apply OKR.pI | apply OKR.pL | apply OKR.cpI | apply OKR.wI)) (And.intro (by repeat' (first | exact hR | apply OKR.pI | apply OKR.pL | apply OKR.cpI | apply OKR.wI)) ?_)
      rw [show b2 (0 ≤ v ∧ v ≤ 9) = 0 from if_neg q]
      refine And.intro (fun c4 => ?_) (fun c4 => ?_)
      · try dsimp only at c4
        refine And.intro trivial ?_
        exact h _ _ R
      · first | exact absurd c4 (by decide) | exact absurd (by decide) c4 | (exfalso; grind)
    · first | exact absurd c4 (by decide) | exact absurd (by decide) c4 | (exfalso; grind)
