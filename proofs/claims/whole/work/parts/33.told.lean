/-! Written by a program (wip/whole/p33.py): asked, upper, lower, finding, findings, jar. -/
theorem CurR.jar {n : Nat} {m : Mem} (H : CurR n m) : gI m (0, 5, 0) 7 = gI m (1, 0, 0) 21 ∧ gI m (0, 5, 0) 8 = gI m (1, 0, 0) 22 := by
  obtain ⟨h8, hm, h0, h1⟩ := H
  rcases Nat.eq_zero_or_pos n with z | z
  · obtain ⟨-, -, -, a, b, c, d, -⟩ := h0 z
    exact ⟨a.trans b.symm, c.trans d.symm⟩
  · obtain ⟨-, ⟨H, -, -, -, -, -, ⟨a, -⟩, b, -⟩, -⟩ := h1 z
    exact ⟨a, b⟩

theorem p_asked {d : Nat} {m : Mem} {K : Option Vv → Option Vv → Mem → Prop} (R : RelAB m) (h : ∀ v m', RelAB m' → K v v m') : cW (d + 1) n_X_asked [vo 0 0 0] m (fun u m1 => cW (d + 1) n_M_asked [vo 1 0 0] m1 (fun w m2 => K u w m2)) := by
  have hR := R.1
  obtain ⟨n, hc⟩ := R.2.2.2.2
  have ht := R.2.2.2.1
  refine w_X_asked (Go.runR (callT_mono MT _) [] 200 (by repeat' (first | exact hR | apply OKR.pI | apply OKR.pL | apply OKR.cpI | apply OKR.wI)) ?_)
  refine And.intro trivial ?_
  refine w_M_asked (Go.runR (callT_mono MT _) [] 200 (by repeat' (first | exact hR | apply OKR.pI | apply OKR.pL | apply OKR.cpI | apply OKR.wI)) ?_)
  refine And.intro trivial ?_
  rw [show gI m (0, 0, 0) 8 = gI m (1, 0, 0) 2 from ht.2.1]
  exact h _ _ R

theorem p_finding {d : Nat} {m : Mem} {K : Option Vv → Option Vv → Mem → Prop} (R : RelAB m) (h : ∀ v m', RelAB m' → K v v m') : cW (d + 1) n_X_finding [vo 0 0 0] m (fun u m1 => cW (d + 1) n_M_finding [vo 1 0 0] m1 (fun w m2 => K u w m2)) := by
  have hR := R.1
  obtain ⟨n, hc⟩ := R.2.2.2.2
  have ht := R.2.2.2.1
  refine w_X_finding (Go.runR (callT_mono MT _) [] 200 (by repeat' (first | exact hR | apply OKR.pI | apply OKR.pL | apply OKR.cpI | apply OKR.wI)) ?_)
  refine And.intro trivial ?_
  refine w_M_finding (Go.runR (callT_mono MT _) [] 200 (by repeat' (first | exact hR | apply OKR.pI | apply OKR.pL | apply OKR.cpI | apply OKR.wI)) ?_)
  refine And.intro trivial ?_
  rw [show gI m (0, 0, 0) 7 = gI m (1, 0, 0) 0 from ht.1]
  exact h _ _ R

theorem p_upper {d : Nat} {m : Mem} {K : Option Vv → Option Vv → Mem → Prop} (R : RelAB m) (h : ∀ v m', RelAB m' → K v v m') : cW (d + 1) n_X_upper [vo 0 0 0] m (fun u m1 => cW (d + 1) n_M_upper [vo 1 0 0] m1 (fun w m2 => K u w m2)) := by
  have hR := R.1
  obtain ⟨n, hc⟩ := R.2.2.2.2
  have ht := R.2.2.2.1
  refine w_X_upper (Go.runR (callT_mono MT _) [] 200 (by repeat' (first | exact hR | apply OKR.pI | apply OKR.pL | apply OKR.cpI | apply OKR.wI)) ?_)
  refine And.intro ⟨(by first | decide | assumption | omega), (by first | decide | assumption | omega)⟩ ?_
  refine And.intro trivial ?_
  refine w_M_upper (Go.runR (callT_mono MT _) [] 200 (by repeat' (first | exact hR | apply OKR.pI | apply OKR.pL | apply OKR.cpI | apply OKR.wI)) ?_)
  refine And.intro trivial ?_
  rw [show gL m (0, 18, 0) 0 = gL m (1, 0, 0) 3 from ht.2.2.2.1]
  exact h _ _ R

theorem p_lower {d : Nat} {m : Mem} {K : Option Vv → Option Vv → Mem → Prop} (R : RelAB m) (h : ∀ v m', RelAB m' → K v v m') : cW (d + 1) n_X_lower [vo 0 0 0] m (fun u m1 => cW (d + 1) n_M_lower [vo 1 0 0] m1 (fun w m2 => K u w m2)) := by
  have hR := R.1
  obtain ⟨n, hc⟩ := R.2.2.2.2
  have ht := R.2.2.2.1
  refine w_X_lower (Go.runR (callT_mono MT _) [] 200 (by repeat' (first | exact hR | apply OKR.pI | apply OKR.pL | apply OKR.cpI | apply OKR.wI)) ?_)
  refine And.intro ⟨(by first | decide | assumption | omega), (by first | decide | assumption | omega)⟩ ?_
  refine And.intro trivial ?_
  refine w_M_lower (Go.runR (callT_mono MT _) [] 200 (by repeat' (first | exact hR | apply OKR.pI | apply OKR.pL | apply OKR.cpI | apply OKR.wI)) ?_)
  refine And.intro trivial ?_
  rw [show gL m (0, 18, 0) 1 = gL m (1, 0, 0) 4 from ht.2.2.2.2.1]
  exact h _ _ R

theorem p_jar {d : Nat} {m : Mem} {K : Option Vv → Option Vv → Mem → Prop} (R : RelAB m) (h : ∀ v m', RelAB m' → K v v m') : cW (d + 2) n_X_jar [vo 0 0 0] m (fun u m1 => cW (d + 2) n_M_jar [vo 1 0 0] m1 (fun w m2 => K u w m2)) := by
  have hR := R.1
  obtain ⟨n, hc⟩ := R.2.2.2.2
  have ht := R.2.2.2.1
  refine w_X_jar (Go.runR (callT_mono MT _) [] 200 (by repeat' (first | exact hR | apply OKR.pI | apply OKR.pL | apply OKR.cpI | apply OKR.wI)) ?_)
  refine And.intro ⟨(by first | decide | assumption | omega), (by first | decide | assumption | omega)⟩ ?_
  refine And.intro ⟨(by first | decide | assumption | omega), (by first | decide | assumption | omega)⟩ ?_
  refine m_X_tell (by repeat' (first | exact hR | apply OKR.pI | apply OKR.pL | apply OKR.cpI | apply OKR.wI))  (And.intro (by repeat' (first | exact hR | apply OKR.pI | apply OKR.pL | apply OKR.cpI | apply OKR.wI)) ?_)
  refine And.intro trivial ?_
  refine w_M_jar (Go.runR (callT_mono MT _) [] 200 (by repeat' (first | exact hR | apply OKR.pI | apply OKR.pL | apply OKR.cpI | apply OKR.wI)) ?_)
  refine m_M_ask (by repeat' (first | exact hR | apply OKR.pI | apply OKR.pL | apply OKR.cpI | apply OKR.wI))  (And.intro (by repeat' (first | exact hR | apply OKR.pI | apply OKR.pL | apply OKR.cpI | apply OKR.wI)) ?_)
  refine And.intro trivial ?_
  show K (some (vi (gI m (0, 5, 0) 7))) (some (vi (gI m (1, 0, 0) 21))) (askM (tellM m (gI m (0, 5, 0) 8)) (gI m (1, 0, 0) 22))
  rw [hc.jar.1, hc.jar.2]
  exact h _ _ (R.tell _)

theorem p_findings {d : Nat} {m : Mem} {K : Option Vv → Option Vv → Mem → Prop} (R : RelAB m) {f : Int32} (h : ∀ v m', RelAB m' → K v v m') : cW (d + 2) n_X_findings [vo 0 0 0, vi f] m (fun u m1 => cW (d + 2) n_M_findings [vo 1 0 0, vi f] m1 (fun w m2 => K u w m2)) := by
  have hR := R.1
  obtain ⟨n, hc⟩ := R.2.2.2.2
  have ht := R.2.2.2.1
  by_cases q : 1 ≤ f ∧ f ≤ 5
  · obtain ⟨a, ha, rfl⟩ : ∃ a, a ≤ 5 ∧ f = nI a := nI_of2 (M := 5) (n := 5) rfl (by grind) q.2
    have e0 : (nI a).toNatClampNeg = a := nI_clamp (by omega)
    have h1 : 1 ≤ a := (nI_leI (a := 1) (by omega) (by omega)).mp q.1
    refine w_X_findings (Go.runR (callT_mono MT _) [] 200 (by repeat' (first | exact hR | apply OKR.pI | apply OKR.pL | apply OKR.cpI | apply OKR.wI)) ?_)
    refine m_X_isWithin (by repeat' (first | exact hR | apply OKR.pI | apply OKR.pL | apply OKR.cpI | apply OKR.wI)) (And.intro (by repeat' (first | exact hR | apply OKR.pI | apply OKR.pL | apply OKR.cpI | apply OKR.wI)) ?_)
    rw [show b2 (1 ≤ nI a ∧ nI a ≤ 5) = 1 from if_pos q]
    refine And.intro (fun c4 => ?_) (fun c4 => ?_)
    · first | exact absurd c4 (by decide) | exact absurd (by decide) c4 | (exfalso; grind)
    · try dsimp only at c4
      refine And.intro ⟨(by first | decide | assumption | omega), (by first | decide | assumption | omega)⟩ ?_
      refine And.intro (vp_nI (N := 6) (by omega) (by decide)) ?_
      refine And.intro trivial ?_
      refine w_M_findings (Go.runR (callT_mono MT _) [] 200 (by repeat' (first | exact hR | apply OKR.pI | apply OKR.pL | apply OKR.cpI | apply OKR.wI)) ?_)
      refine m_M_in (by repeat' (first | exact hR | apply OKR.pI | apply OKR.pL | apply OKR.cpI | apply OKR.wI)) (And.intro (by repeat' (first | exact hR | apply OKR.pI | apply OKR.pL | apply OKR.cpI | apply OKR.wI)) ?_)
      rw [show b2 (1 ≤ nI a ∧ nI a ≤ 5) = 1 from if_pos q]
      refine And.intro (fun c4 => ?_) (fun c4 => ?_)
      · first | exact absurd c4 (by decide) | exact absurd (by decide) c4 | (exfalso; grind)
      · try dsimp only at c4
        refine And.intro ⟨rfl, rfl, rfl⟩ ?_
        refine And.intro (vp_nI (N := 6) (by omega) (by decide)) ?_
        refine And.intro trivial ?_
        rw [e0, show gI m (0, 19, 0) a = gI m (1, 1, 0) a from ht.2.2.1 a h1 ha]
        exact h _ _ R
  · refine w_X_findings (Go.runR (callT_mono MT _) [] 200 (by repeat' (first | exact hR | apply OKR.pI | apply OKR.pL | apply OKR.cpI | apply OKR.wI)) ?_)
    refine m_X_isWithin (by repeat' (first | exact hR | apply OKR.pI | apply OKR.pL | apply OKR.cpI | apply OKR.wI)) (And.intro (by repeat' (first | exact hR | apply OKR.pI | apply OKR.pL | apply OKR.cpI | apply OKR.wI)) ?_)
    rw [show b2 (1 ≤ f ∧ f ≤ 5) = 0 from if_neg q]
    refine And.intro (fun c4 => ?_) (fun c4 => ?_)
    · try dsimp only at c4
      refine And.intro trivial ?_
      refine w_M_findings (Go.runR (callT_mono MT _) [] 200 (by repeat' (first | exact hR | apply OKR.pI | apply OKR.pL | apply OKR.cpI | apply OKR.wI)) ?_)
      refine m_M_in (by repeat' (first | exact hR | apply OKR.pI | apply OKR.pL | apply OKR.cpI | apply OKR.wI)) (And.intro (by repeat' (first | exact hR | apply OKR.pI | apply OKR.pL | apply OKR.cpI | apply OKR.wI)) ?_)
      rw [show b2 (1 ≤ f ∧ f ≤ 5) = 0 from if_neg q]
      refine And.intro (fun c4 => ?_) (fun c4 => ?_)
      · try dsimp only at c4
        refine And.intro trivial ?_
        exact h _ _ R
      · first | exact absurd c4 (by decide) | exact absurd (by decide) c4 | (exfalso; grind)
    · first | exact absurd c4 (by decide) | exact absurd (by decide) c4 | (exfalso; grind)
